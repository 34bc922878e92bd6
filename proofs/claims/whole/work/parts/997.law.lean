/-! the law's own rows (by tools/mklaw.py) -/
abbrev m_L_law : mx_Me := mx_law
theorem t_L_law_0 : mx_dec cL_law [(0, .new 8, 3), (3, .dup, 1), (4, .invokespecial 102, 3), (7, .astore_n 1, 1), (8, .new 103, 3), (11, .dup, 1), (12, .invokespecial 105, 3), (15, .astore_n 2, 1), (16, .iconst 1, 1), (17, .newarray .long, 2), (19, .astore_n 3, 1), (20, .iconst 0, 1), (21, .istore 4, 2)] = true := by decide +kernel
theorem t_L_law_23 : mx_dec cL_law [(23, .iload 4, 2), (25, .aload_n 0, 1), (26, .arraylength, 1), (27, .bipush 6, 2), (29, .isub, 1), (30, .if_icmp .gt 2288, 3), (33, .aload_n 0, 1), (34, .iload 4, 2), (36, .iaload, 1), (37, .bipush 63, 2), (39, .iand, 1), (40, .tableswitch 2272 0 38 #[172, 245, 301, 314, 370, 438, 506, 586, 673, 741, 809, 865, 933, 989, 1057, 1113, 1126, 1206, 1274, 1287, 1300, 1356, 1412, 1492, 1505, 1518, 1574, 1642, 1655, 1735, 1827, 1907, 1963, 1976, 2032, 2100, 2168, 2248, 2259], 172)] = true := by decide +kernel
theorem t_L_law_212 : mx_dec cL_law [(212, .aload_n 1, 1), (213, .aload_n 0, 1), (214, .iload 4, 2), (216, .iconst 1, 1), (217, .iadd, 1), (218, .iaload, 1), (219, .aload_n 0, 1), (220, .iload 4, 2), (222, .iconst 2, 1), (223, .iadd, 1), (224, .iaload, 1), (225, .aload_n 0, 1), (226, .iload 4, 2), (228, .iconst 3, 1), (229, .iadd, 1), (230, .iaload, 1), (231, .aload_n 0, 1), (232, .iload 4, 2), (234, .iconst 4, 1), (235, .iadd, 1), (236, .iaload, 1), (237, .aload_n 0, 1), (238, .iload 4, 2), (240, .iconst 5, 1), (241, .iadd, 1), (242, .iaload, 1), (243, .invokevirtual 106, 3), (246, .aload_n 2, 1), (247, .aload_n 0, 1), (248, .iload 4, 2), (250, .iconst 1, 1), (251, .iadd, 1), (252, .iaload, 1), (253, .aload_n 0, 1), (254, .iload 4, 2), (256, .iconst 2, 1), (257, .iadd, 1), (258, .iaload, 1), (259, .aload_n 0, 1), (260, .iload 4, 2), (262, .iconst 3, 1), (263, .iadd, 1), (264, .iaload, 1), (265, .aload_n 0, 1), (266, .iload 4, 2), (268, .iconst 4, 1), (269, .iadd, 1), (270, .iaload, 1), (271, .aload_n 0, 1), (272, .iload 4, 2), (274, .iconst 5, 1), (275, .iadd, 1), (276, .iaload, 1), (277, .invokevirtual 110, 3), (280, .if_icmp .eq 2032, 3), (283, .iconst 0, 1), (284, .ireturn, 1)] = true := by decide +kernel
theorem t_L_law_285 : mx_dec cL_law [(285, .aload_n 1, 1), (286, .aload_n 0, 1), (287, .iload 4, 2), (289, .iconst 1, 1), (290, .iadd, 1), (291, .iaload, 1), (292, .aload_n 3, 1), (293, .invokestatic 111, 3), (296, .istore 5, 2), (298, .aload_n 2, 1), (299, .aload_n 0, 1), (300, .iload 4, 2), (302, .iconst 1, 1), (303, .iadd, 1), (304, .iaload, 1), (305, .invokevirtual 116, 3), (308, .istore 6, 2), (310, .aload_n 2, 1), (311, .invokevirtual 117, 3), (314, .iload 5, 2), (316, .if_icmp .eq 5, 3), (319, .iconst 0, 1), (320, .ireturn, 1), (321, .iload 5, 2), (323, .ifCond .ne 15, 3), (326, .aload_n 3, 1), (327, .iconst 0, 1), (328, .laload, 1), (329, .iload 6, 2), (331, .i2l, 1), (332, .lcmp, 1), (333, .ifCond .eq 5, 3), (336, .iconst 0, 1), (337, .ireturn, 1), (338, .goto 1974, 3)] = true := by decide +kernel
theorem t_L_law_341 : mx_dec cL_law [(341, .aload_n 1, 1), (342, .invokevirtual 121, 3), (345, .aload_n 2, 1), (346, .invokevirtual 124, 3), (349, .if_icmp .eq 1963, 3), (352, .iconst 0, 1), (353, .ireturn, 1)] = true := by decide +kernel
theorem t_L_law_354 : mx_dec cL_law [(354, .aload_n 1, 1), (355, .aload_n 0, 1), (356, .iload 4, 2), (358, .iconst 1, 1), (359, .iadd, 1), (360, .iaload, 1), (361, .aload_n 3, 1), (362, .invokestatic 125, 3), (365, .istore 5, 2), (367, .aload_n 2, 1), (368, .aload_n 0, 1), (369, .iload 4, 2), (371, .iconst 1, 1), (372, .iadd, 1), (373, .iaload, 1), (374, .invokevirtual 127, 3), (377, .istore 6, 2), (379, .aload_n 2, 1), (380, .invokevirtual 117, 3), (383, .iload 5, 2), (385, .if_icmp .eq 5, 3), (388, .iconst 0, 1), (389, .ireturn, 1), (390, .iload 5, 2), (392, .ifCond .ne 15, 3), (395, .aload_n 3, 1), (396, .iconst 0, 1), (397, .laload, 1), (398, .iload 6, 2), (400, .i2l, 1), (401, .lcmp, 1), (402, .ifCond .eq 5, 3), (405, .iconst 0, 1), (406, .ireturn, 1), (407, .goto 1905, 3)] = true := by decide +kernel
theorem t_L_law_410 : mx_dec cL_law [(410, .aload_n 1, 1), (411, .aload_n 0, 1), (412, .iload 4, 2), (414, .iconst 1, 1), (415, .iadd, 1), (416, .iaload, 1), (417, .aload_n 0, 1), (418, .iload 4, 2), (420, .iconst 2, 1), (421, .iadd, 1), (422, .iaload, 1), (423, .aload_n 3, 1), (424, .invokestatic 128, 3), (427, .istore 5, 2), (429, .aload_n 2, 1), (430, .aload_n 0, 1), (431, .iload 4, 2), (433, .iconst 1, 1), (434, .iadd, 1), (435, .iaload, 1), (436, .aload_n 0, 1), (437, .iload 4, 2), (439, .iconst 2, 1), (440, .iadd, 1), (441, .iaload, 1), (442, .invokevirtual 131, 3), (445, .istore 6, 2), (447, .aload_n 2, 1), (448, .invokevirtual 117, 3), (451, .iload 5, 2), (453, .if_icmp .eq 5, 3), (456, .iconst 0, 1), (457, .ireturn, 1), (458, .iload 5, 2), (460, .ifCond .ne 15, 3), (463, .aload_n 3, 1), (464, .iconst 0, 1), (465, .laload, 1), (466, .iload 6, 2), (468, .i2l, 1), (469, .lcmp, 1), (470, .ifCond .eq 5, 3), (473, .iconst 0, 1), (474, .ireturn, 1), (475, .goto 1837, 3)] = true := by decide +kernel
theorem t_L_law_478 : mx_dec cL_law [(478, .aload_n 1, 1), (479, .aload_n 0, 1), (480, .iload 4, 2), (482, .iconst 1, 1), (483, .iadd, 1), (484, .iaload, 1), (485, .aload_n 0, 1), (486, .iload 4, 2), (488, .iconst 2, 1), (489, .iadd, 1), (490, .iaload, 1), (491, .aload_n 3, 1), (492, .invokestatic 132, 3), (495, .istore 5, 2), (497, .aload_n 2, 1), (498, .aload_n 0, 1), (499, .iload 4, 2), (501, .iconst 1, 1), (502, .iadd, 1), (503, .iaload, 1), (504, .aload_n 0, 1), (505, .iload 4, 2), (507, .iconst 2, 1), (508, .iadd, 1), (509, .iaload, 1), (510, .invokevirtual 134, 3), (513, .istore 6, 2), (515, .aload_n 2, 1), (516, .invokevirtual 117, 3), (519, .iload 5, 2), (521, .if_icmp .eq 5, 3), (524, .iconst 0, 1), (525, .ireturn, 1), (526, .iload 5, 2), (528, .ifCond .ne 15, 3), (531, .aload_n 3, 1), (532, .iconst 0, 1), (533, .laload, 1), (534, .iload 6, 2), (536, .i2l, 1), (537, .lcmp, 1), (538, .ifCond .eq 5, 3), (541, .iconst 0, 1), (542, .ireturn, 1), (543, .goto 1769, 3)] = true := by decide +kernel
theorem t_L_law_546 : mx_dec cL_law [(546, .aload_n 1, 1), (547, .aload_n 0, 1), (548, .iload 4, 2), (550, .iconst 1, 1), (551, .iadd, 1), (552, .iaload, 1), (553, .aload_n 0, 1), (554, .iload 4, 2), (556, .iconst 2, 1), (557, .iadd, 1), (558, .iaload, 1), (559, .aload_n 0, 1), (560, .iload 4, 2), (562, .iconst 3, 1), (563, .iadd, 1), (564, .iaload, 1), (565, .aload_n 3, 1), (566, .invokestatic 135, 3), (569, .istore 5, 2), (571, .aload_n 2, 1), (572, .aload_n 0, 1), (573, .iload 4, 2), (575, .iconst 1, 1), (576, .iadd, 1), (577, .iaload, 1), (578, .aload_n 0, 1), (579, .iload 4, 2), (581, .iconst 2, 1), (582, .iadd, 1), (583, .iaload, 1), (584, .aload_n 0, 1), (585, .iload 4, 2), (587, .iconst 3, 1), (588, .iadd, 1), (589, .iaload, 1), (590, .invokevirtual 138, 3), (593, .istore 6, 2), (595, .aload_n 2, 1), (596, .invokevirtual 117, 3), (599, .iload 5, 2), (601, .if_icmp .eq 5, 3), (604, .iconst 0, 1), (605, .ireturn, 1), (606, .iload 5, 2), (608, .ifCond .ne 15, 3), (611, .aload_n 3, 1), (612, .iconst 0, 1), (613, .laload, 1), (614, .iload 6, 2), (616, .i2l, 1), (617, .lcmp, 1), (618, .ifCond .eq 5, 3), (621, .iconst 0, 1), (622, .ireturn, 1), (623, .goto 1689, 3)] = true := by decide +kernel
theorem t_L_law_626 : mx_dec cL_law [(626, .aload_n 1, 1), (627, .aload_n 0, 1), (628, .iload 4, 2), (630, .iconst 1, 1), (631, .iadd, 1), (632, .iaload, 1), (633, .aload_n 0, 1), (634, .iload 4, 2), (636, .iconst 2, 1), (637, .iadd, 1), (638, .iaload, 1), (639, .aload_n 0, 1), (640, .iload 4, 2), (642, .iconst 3, 1), (643, .iadd, 1), (644, .iaload, 1), (645, .aload_n 3, 1), (646, .invokestatic 139, 3), (649, .istore 5, 2), (651, .aload_n 2, 1), (652, .aload_n 0, 1), (653, .iload 4, 2), (655, .iconst 1, 1), (656, .iadd, 1), (657, .iaload, 1), (658, .aload_n 0, 1), (659, .iload 4, 2), (661, .iconst 2, 1), (662, .iadd, 1), (663, .iaload, 1), (664, .aload_n 0, 1), (665, .iload 4, 2), (667, .iconst 3, 1), (668, .iadd, 1), (669, .iaload, 1), (670, .invokevirtual 141, 3), (673, .istore 6, 2), (675, .aload_n 2, 1), (676, .invokevirtual 117, 3), (679, .iload 5, 2), (681, .if_icmp .eq 5, 3), (684, .iconst 0, 1), (685, .ireturn, 1), (686, .iload 5, 2), (688, .ifCond .ne 22, 3), (691, .aload_n 3, 1), (692, .iconst 0, 1), (693, .laload, 1), (694, .iload 6, 2), (696, .ifCond .eq 7, 3), (699, .lconst 1, 1), (700, .goto 4, 3), (703, .lconst 0, 1), (704, .lcmp, 1), (705, .ifCond .eq 5, 3), (708, .iconst 0, 1), (709, .ireturn, 1), (710, .goto 1602, 3)] = true := by decide +kernel
theorem t_L_law_713 : mx_dec cL_law [(713, .aload_n 1, 1), (714, .aload_n 0, 1), (715, .iload 4, 2), (717, .iconst 1, 1), (718, .iadd, 1), (719, .iaload, 1), (720, .aload_n 0, 1), (721, .iload 4, 2), (723, .iconst 2, 1), (724, .iadd, 1), (725, .iaload, 1), (726, .aload_n 3, 1), (727, .invokestatic 142, 3), (730, .istore 5, 2), (732, .aload_n 2, 1), (733, .aload_n 0, 1), (734, .iload 4, 2), (736, .iconst 1, 1), (737, .iadd, 1), (738, .iaload, 1), (739, .aload_n 0, 1), (740, .iload 4, 2), (742, .iconst 2, 1), (743, .iadd, 1), (744, .iaload, 1), (745, .invokevirtual 144, 3), (748, .istore 6, 2), (750, .aload_n 2, 1), (751, .invokevirtual 117, 3), (754, .iload 5, 2), (756, .if_icmp .eq 5, 3), (759, .iconst 0, 1), (760, .ireturn, 1), (761, .iload 5, 2), (763, .ifCond .ne 15, 3), (766, .aload_n 3, 1), (767, .iconst 0, 1), (768, .laload, 1), (769, .iload 6, 2), (771, .i2l, 1), (772, .lcmp, 1), (773, .ifCond .eq 5, 3), (776, .iconst 0, 1), (777, .ireturn, 1), (778, .goto 1534, 3)] = true := by decide +kernel
theorem t_L_law_781 : mx_dec cL_law [(781, .aload_n 1, 1), (782, .aload_n 0, 1), (783, .iload 4, 2), (785, .iconst 1, 1), (786, .iadd, 1), (787, .iaload, 1), (788, .aload_n 0, 1), (789, .iload 4, 2), (791, .iconst 2, 1), (792, .iadd, 1), (793, .iaload, 1), (794, .aload_n 3, 1), (795, .invokestatic 145, 3), (798, .istore 5, 2), (800, .aload_n 2, 1), (801, .aload_n 0, 1), (802, .iload 4, 2), (804, .iconst 1, 1), (805, .iadd, 1), (806, .iaload, 1), (807, .aload_n 0, 1), (808, .iload 4, 2), (810, .iconst 2, 1), (811, .iadd, 1), (812, .iaload, 1), (813, .invokevirtual 147, 3), (816, .istore 6, 2), (818, .aload_n 2, 1), (819, .invokevirtual 117, 3), (822, .iload 5, 2), (824, .if_icmp .eq 5, 3), (827, .iconst 0, 1), (828, .ireturn, 1), (829, .iload 5, 2), (831, .ifCond .ne 15, 3), (834, .aload_n 3, 1), (835, .iconst 0, 1), (836, .laload, 1), (837, .iload 6, 2), (839, .i2l, 1), (840, .lcmp, 1), (841, .ifCond .eq 5, 3), (844, .iconst 0, 1), (845, .ireturn, 1), (846, .goto 1466, 3)] = true := by decide +kernel
theorem t_L_law_849 : mx_dec cL_law [(849, .aload_n 1, 1), (850, .aload_n 0, 1), (851, .iload 4, 2), (853, .iconst 1, 1), (854, .iadd, 1), (855, .iaload, 1), (856, .aload_n 3, 1), (857, .invokestatic 148, 3), (860, .istore 5, 2), (862, .aload_n 2, 1), (863, .aload_n 0, 1), (864, .iload 4, 2), (866, .iconst 1, 1), (867, .iadd, 1), (868, .iaload, 1), (869, .invokevirtual 150, 3), (872, .istore 6, 2), (874, .aload_n 2, 1), (875, .invokevirtual 117, 3), (878, .iload 5, 2), (880, .if_icmp .eq 5, 3), (883, .iconst 0, 1), (884, .ireturn, 1), (885, .iload 5, 2), (887, .ifCond .ne 15, 3), (890, .aload_n 3, 1), (891, .iconst 0, 1), (892, .laload, 1), (893, .iload 6, 2), (895, .i2l, 1), (896, .lcmp, 1), (897, .ifCond .eq 5, 3), (900, .iconst 0, 1), (901, .ireturn, 1), (902, .goto 1410, 3)] = true := by decide +kernel
theorem t_L_law_905 : mx_dec cL_law [(905, .aload_n 1, 1), (906, .aload_n 0, 1), (907, .iload 4, 2), (909, .iconst 1, 1), (910, .iadd, 1), (911, .iaload, 1), (912, .aload_n 0, 1), (913, .iload 4, 2), (915, .iconst 2, 1), (916, .iadd, 1), (917, .iaload, 1), (918, .aload_n 3, 1), (919, .invokestatic 151, 3), (922, .istore 5, 2), (924, .aload_n 2, 1), (925, .aload_n 0, 1), (926, .iload 4, 2), (928, .iconst 1, 1), (929, .iadd, 1), (930, .iaload, 1), (931, .aload_n 0, 1), (932, .iload 4, 2), (934, .iconst 2, 1), (935, .iadd, 1), (936, .iaload, 1), (937, .invokevirtual 153, 3), (940, .istore 6, 2), (942, .aload_n 2, 1), (943, .invokevirtual 117, 3), (946, .iload 5, 2), (948, .if_icmp .eq 5, 3), (951, .iconst 0, 1), (952, .ireturn, 1), (953, .iload 5, 2), (955, .ifCond .ne 15, 3), (958, .aload_n 3, 1), (959, .iconst 0, 1), (960, .laload, 1), (961, .iload 6, 2), (963, .i2l, 1), (964, .lcmp, 1), (965, .ifCond .eq 5, 3), (968, .iconst 0, 1), (969, .ireturn, 1), (970, .goto 1342, 3)] = true := by decide +kernel
theorem t_L_law_973 : mx_dec cL_law [(973, .aload_n 1, 1), (974, .aload_n 0, 1), (975, .iload 4, 2), (977, .iconst 1, 1), (978, .iadd, 1), (979, .iaload, 1), (980, .aload_n 3, 1), (981, .invokestatic 154, 3), (984, .istore 5, 2), (986, .aload_n 2, 1), (987, .aload_n 0, 1), (988, .iload 4, 2), (990, .iconst 1, 1), (991, .iadd, 1), (992, .iaload, 1), (993, .invokevirtual 156, 3), (996, .istore 6, 2), (998, .aload_n 2, 1), (999, .invokevirtual 117, 3), (1002, .iload 5, 2), (1004, .if_icmp .eq 5, 3), (1007, .iconst 0, 1), (1008, .ireturn, 1), (1009, .iload 5, 2), (1011, .ifCond .ne 15, 3), (1014, .aload_n 3, 1), (1015, .iconst 0, 1), (1016, .laload, 1), (1017, .iload 6, 2), (1019, .i2l, 1), (1020, .lcmp, 1), (1021, .ifCond .eq 5, 3), (1024, .iconst 0, 1), (1025, .ireturn, 1), (1026, .goto 1286, 3)] = true := by decide +kernel
theorem t_L_law_1029 : mx_dec cL_law [(1029, .aload_n 1, 1), (1030, .aload_n 0, 1), (1031, .iload 4, 2), (1033, .iconst 1, 1), (1034, .iadd, 1), (1035, .iaload, 1), (1036, .aload_n 0, 1), (1037, .iload 4, 2), (1039, .iconst 2, 1), (1040, .iadd, 1), (1041, .iaload, 1), (1042, .aload_n 3, 1), (1043, .invokestatic 157, 3), (1046, .istore 5, 2), (1048, .aload_n 2, 1), (1049, .aload_n 0, 1), (1050, .iload 4, 2), (1052, .iconst 1, 1), (1053, .iadd, 1), (1054, .iaload, 1), (1055, .aload_n 0, 1), (1056, .iload 4, 2), (1058, .iconst 2, 1), (1059, .iadd, 1), (1060, .iaload, 1), (1061, .invokevirtual 159, 3), (1064, .istore 6, 2), (1066, .aload_n 2, 1), (1067, .invokevirtual 117, 3), (1070, .iload 5, 2), (1072, .if_icmp .eq 5, 3), (1075, .iconst 0, 1), (1076, .ireturn, 1), (1077, .iload 5, 2), (1079, .ifCond .ne 15, 3), (1082, .aload_n 3, 1), (1083, .iconst 0, 1), (1084, .laload, 1), (1085, .iload 6, 2), (1087, .i2l, 1), (1088, .lcmp, 1), (1089, .ifCond .eq 5, 3), (1092, .iconst 0, 1), (1093, .ireturn, 1), (1094, .goto 1218, 3)] = true := by decide +kernel
theorem t_L_law_1097 : mx_dec cL_law [(1097, .aload_n 1, 1), (1098, .aload_n 0, 1), (1099, .iload 4, 2), (1101, .iconst 1, 1), (1102, .iadd, 1), (1103, .iaload, 1), (1104, .aload_n 3, 1), (1105, .invokestatic 160, 3), (1108, .istore 5, 2), (1110, .aload_n 2, 1), (1111, .aload_n 0, 1), (1112, .iload 4, 2), (1114, .iconst 1, 1), (1115, .iadd, 1), (1116, .iaload, 1), (1117, .invokevirtual 162, 3), (1120, .istore 6, 2), (1122, .aload_n 2, 1), (1123, .invokevirtual 117, 3), (1126, .iload 5, 2), (1128, .if_icmp .eq 5, 3), (1131, .iconst 0, 1), (1132, .ireturn, 1), (1133, .iload 5, 2), (1135, .ifCond .ne 15, 3), (1138, .aload_n 3, 1), (1139, .iconst 0, 1), (1140, .laload, 1), (1141, .iload 6, 2), (1143, .i2l, 1), (1144, .lcmp, 1), (1145, .ifCond .eq 5, 3), (1148, .iconst 0, 1), (1149, .ireturn, 1), (1150, .goto 1162, 3)] = true := by decide +kernel
theorem t_L_law_1153 : mx_dec cL_law [(1153, .aload_n 1, 1), (1154, .invokevirtual 163, 3), (1157, .aload_n 2, 1), (1158, .invokevirtual 166, 3), (1161, .if_icmp .eq 1151, 3), (1164, .iconst 0, 1), (1165, .ireturn, 1)] = true := by decide +kernel
theorem t_L_law_1166 : mx_dec cL_law [(1166, .aload_n 1, 1), (1167, .aload_n 0, 1), (1168, .iload 4, 2), (1170, .iconst 1, 1), (1171, .iadd, 1), (1172, .iaload, 1), (1173, .aload_n 0, 1), (1174, .iload 4, 2), (1176, .iconst 2, 1), (1177, .iadd, 1), (1178, .iaload, 1), (1179, .aload_n 0, 1), (1180, .iload 4, 2), (1182, .iconst 3, 1), (1183, .iadd, 1), (1184, .iaload, 1), (1185, .aload_n 3, 1), (1186, .invokestatic 167, 3), (1189, .istore 5, 2), (1191, .aload_n 2, 1), (1192, .aload_n 0, 1), (1193, .iload 4, 2), (1195, .iconst 1, 1), (1196, .iadd, 1), (1197, .iaload, 1), (1198, .aload_n 0, 1), (1199, .iload 4, 2), (1201, .iconst 2, 1), (1202, .iadd, 1), (1203, .iaload, 1), (1204, .aload_n 0, 1), (1205, .iload 4, 2), (1207, .iconst 3, 1), (1208, .iadd, 1), (1209, .iaload, 1), (1210, .invokevirtual 169, 3), (1213, .istore 6, 2), (1215, .aload_n 2, 1), (1216, .invokevirtual 117, 3), (1219, .iload 5, 2), (1221, .if_icmp .eq 5, 3), (1224, .iconst 0, 1), (1225, .ireturn, 1), (1226, .iload 5, 2), (1228, .ifCond .ne 15, 3), (1231, .aload_n 3, 1), (1232, .iconst 0, 1), (1233, .laload, 1), (1234, .iload 6, 2), (1236, .i2l, 1), (1237, .lcmp, 1), (1238, .ifCond .eq 5, 3), (1241, .iconst 0, 1), (1242, .ireturn, 1), (1243, .goto 1069, 3)] = true := by decide +kernel
theorem t_L_law_1246 : mx_dec cL_law [(1246, .aload_n 1, 1), (1247, .aload_n 0, 1), (1248, .iload 4, 2), (1250, .iconst 1, 1), (1251, .iadd, 1), (1252, .iaload, 1), (1253, .aload_n 0, 1), (1254, .iload 4, 2), (1256, .iconst 2, 1), (1257, .iadd, 1), (1258, .iaload, 1), (1259, .aload_n 3, 1), (1260, .invokestatic 170, 3), (1263, .istore 5, 2), (1265, .aload_n 2, 1), (1266, .aload_n 0, 1), (1267, .iload 4, 2), (1269, .iconst 1, 1), (1270, .iadd, 1), (1271, .iaload, 1), (1272, .aload_n 0, 1), (1273, .iload 4, 2), (1275, .iconst 2, 1), (1276, .iadd, 1), (1277, .iaload, 1), (1278, .invokevirtual 172, 3), (1281, .istore 6, 2), (1283, .aload_n 2, 1), (1284, .invokevirtual 117, 3), (1287, .iload 5, 2), (1289, .if_icmp .eq 5, 3), (1292, .iconst 0, 1), (1293, .ireturn, 1), (1294, .iload 5, 2), (1296, .ifCond .ne 15, 3), (1299, .aload_n 3, 1), (1300, .iconst 0, 1), (1301, .laload, 1), (1302, .iload 6, 2), (1304, .i2l, 1), (1305, .lcmp, 1), (1306, .ifCond .eq 5, 3), (1309, .iconst 0, 1), (1310, .ireturn, 1), (1311, .goto 1001, 3)] = true := by decide +kernel
theorem t_L_law_1314 : mx_dec cL_law [(1314, .aload_n 1, 1), (1315, .invokevirtual 173, 3), (1318, .aload_n 2, 1), (1319, .invokevirtual 176, 3), (1322, .if_icmp .eq 990, 3), (1325, .iconst 0, 1), (1326, .ireturn, 1)] = true := by decide +kernel
theorem t_L_law_1327 : mx_dec cL_law [(1327, .aload_n 1, 1), (1328, .invokevirtual 177, 3), (1331, .aload_n 2, 1), (1332, .invokevirtual 180, 3), (1335, .if_icmp .eq 977, 3), (1338, .iconst 0, 1), (1339, .ireturn, 1)] = true := by decide +kernel
theorem t_L_law_1340 : mx_dec cL_law [(1340, .aload_n 1, 1), (1341, .aload_n 0, 1), (1342, .iload 4, 2), (1344, .iconst 1, 1), (1345, .iadd, 1), (1346, .iaload, 1), (1347, .aload_n 3, 1), (1348, .invokestatic 181, 3), (1351, .istore 5, 2), (1353, .aload_n 2, 1), (1354, .aload_n 0, 1), (1355, .iload 4, 2), (1357, .iconst 1, 1), (1358, .iadd, 1), (1359, .iaload, 1), (1360, .invokevirtual 183, 3), (1363, .istore 6, 2), (1365, .aload_n 2, 1), (1366, .invokevirtual 117, 3), (1369, .iload 5, 2), (1371, .if_icmp .eq 5, 3), (1374, .iconst 0, 1), (1375, .ireturn, 1), (1376, .iload 5, 2), (1378, .ifCond .ne 15, 3), (1381, .aload_n 3, 1), (1382, .iconst 0, 1), (1383, .laload, 1), (1384, .iload 6, 2), (1386, .i2l, 1), (1387, .lcmp, 1), (1388, .ifCond .eq 5, 3), (1391, .iconst 0, 1), (1392, .ireturn, 1), (1393, .goto 919, 3)] = true := by decide +kernel
theorem t_L_law_1396 : mx_dec cL_law [(1396, .aload_n 1, 1), (1397, .aload_n 0, 1), (1398, .iload 4, 2), (1400, .iconst 1, 1), (1401, .iadd, 1), (1402, .iaload, 1), (1403, .aload_n 3, 1), (1404, .invokestatic 184, 3), (1407, .istore 5, 2), (1409, .aload_n 2, 1), (1410, .aload_n 0, 1), (1411, .iload 4, 2), (1413, .iconst 1, 1), (1414, .iadd, 1), (1415, .iaload, 1), (1416, .invokevirtual 186, 3), (1419, .istore 6, 2), (1421, .aload_n 2, 1), (1422, .invokevirtual 117, 3), (1425, .iload 5, 2), (1427, .if_icmp .eq 5, 3), (1430, .iconst 0, 1), (1431, .ireturn, 1), (1432, .iload 5, 2), (1434, .ifCond .ne 15, 3), (1437, .aload_n 3, 1), (1438, .iconst 0, 1), (1439, .laload, 1), (1440, .iload 6, 2), (1442, .i2l, 1), (1443, .lcmp, 1), (1444, .ifCond .eq 5, 3), (1447, .iconst 0, 1), (1448, .ireturn, 1), (1449, .goto 863, 3)] = true := by decide +kernel
theorem t_L_law_1452 : mx_dec cL_law [(1452, .aload_n 1, 1), (1453, .aload_n 0, 1), (1454, .iload 4, 2), (1456, .iconst 1, 1), (1457, .iadd, 1), (1458, .iaload, 1), (1459, .aload_n 0, 1), (1460, .iload 4, 2), (1462, .iconst 2, 1), (1463, .iadd, 1), (1464, .iaload, 1), (1465, .aload_n 0, 1), (1466, .iload 4, 2), (1468, .iconst 3, 1), (1469, .iadd, 1), (1470, .iaload, 1), (1471, .aload_n 3, 1), (1472, .invokestatic 187, 3), (1475, .istore 5, 2), (1477, .aload_n 2, 1), (1478, .aload_n 0, 1), (1479, .iload 4, 2), (1481, .iconst 1, 1), (1482, .iadd, 1), (1483, .iaload, 1), (1484, .aload_n 0, 1), (1485, .iload 4, 2), (1487, .iconst 2, 1), (1488, .iadd, 1), (1489, .iaload, 1), (1490, .aload_n 0, 1), (1491, .iload 4, 2), (1493, .iconst 3, 1), (1494, .iadd, 1), (1495, .iaload, 1), (1496, .invokevirtual 189, 3), (1499, .istore 6, 2), (1501, .aload_n 2, 1), (1502, .invokevirtual 117, 3), (1505, .iload 5, 2), (1507, .if_icmp .eq 5, 3), (1510, .iconst 0, 1), (1511, .ireturn, 1), (1512, .iload 5, 2), (1514, .ifCond .ne 15, 3), (1517, .aload_n 3, 1), (1518, .iconst 0, 1), (1519, .laload, 1), (1520, .iload 6, 2), (1522, .i2l, 1), (1523, .lcmp, 1), (1524, .ifCond .eq 5, 3), (1527, .iconst 0, 1), (1528, .ireturn, 1), (1529, .goto 783, 3)] = true := by decide +kernel
theorem t_L_law_1532 : mx_dec cL_law [(1532, .aload_n 1, 1), (1533, .invokevirtual 190, 3), (1536, .aload_n 2, 1), (1537, .invokevirtual 193, 3), (1540, .if_icmp .eq 772, 3), (1543, .iconst 0, 1), (1544, .ireturn, 1)] = true := by decide +kernel
theorem t_L_law_1545 : mx_dec cL_law [(1545, .aload_n 1, 1), (1546, .invokevirtual 194, 3), (1549, .aload_n 2, 1), (1550, .invokevirtual 197, 3), (1553, .if_icmp .eq 759, 3), (1556, .iconst 0, 1), (1557, .ireturn, 1)] = true := by decide +kernel
theorem t_L_law_1558 : mx_dec cL_law [(1558, .aload_n 1, 1), (1559, .aload_n 0, 1), (1560, .iload 4, 2), (1562, .iconst 1, 1), (1563, .iadd, 1), (1564, .iaload, 1), (1565, .aload_n 3, 1), (1566, .invokestatic 198, 3), (1569, .istore 5, 2), (1571, .aload_n 2, 1), (1572, .aload_n 0, 1), (1573, .iload 4, 2), (1575, .iconst 1, 1), (1576, .iadd, 1), (1577, .iaload, 1), (1578, .invokevirtual 200, 3), (1581, .istore 6, 2), (1583, .aload_n 2, 1), (1584, .invokevirtual 117, 3), (1587, .iload 5, 2), (1589, .if_icmp .eq 5, 3), (1592, .iconst 0, 1), (1593, .ireturn, 1), (1594, .iload 5, 2), (1596, .ifCond .ne 15, 3), (1599, .aload_n 3, 1), (1600, .iconst 0, 1), (1601, .laload, 1), (1602, .iload 6, 2), (1604, .i2l, 1), (1605, .lcmp, 1), (1606, .ifCond .eq 5, 3), (1609, .iconst 0, 1), (1610, .ireturn, 1), (1611, .goto 701, 3)] = true := by decide +kernel
theorem t_L_law_1614 : mx_dec cL_law [(1614, .aload_n 1, 1), (1615, .aload_n 0, 1), (1616, .iload 4, 2), (1618, .iconst 1, 1), (1619, .iadd, 1), (1620, .iaload, 1), (1621, .aload_n 0, 1), (1622, .iload 4, 2), (1624, .iconst 2, 1), (1625, .iadd, 1), (1626, .iaload, 1), (1627, .aload_n 3, 1), (1628, .invokestatic 201, 3), (1631, .istore 5, 2), (1633, .aload_n 2, 1), (1634, .aload_n 0, 1), (1635, .iload 4, 2), (1637, .iconst 1, 1), (1638, .iadd, 1), (1639, .iaload, 1), (1640, .aload_n 0, 1), (1641, .iload 4, 2), (1643, .iconst 2, 1), (1644, .iadd, 1), (1645, .iaload, 1), (1646, .invokevirtual 203, 3), (1649, .istore 6, 2), (1651, .aload_n 2, 1), (1652, .invokevirtual 117, 3), (1655, .iload 5, 2), (1657, .if_icmp .eq 5, 3), (1660, .iconst 0, 1), (1661, .ireturn, 1), (1662, .iload 5, 2), (1664, .ifCond .ne 15, 3), (1667, .aload_n 3, 1), (1668, .iconst 0, 1), (1669, .laload, 1), (1670, .iload 6, 2), (1672, .i2l, 1), (1673, .lcmp, 1), (1674, .ifCond .eq 5, 3), (1677, .iconst 0, 1), (1678, .ireturn, 1), (1679, .goto 633, 3)] = true := by decide +kernel
theorem t_L_law_1682 : mx_dec cL_law [(1682, .aload_n 1, 1), (1683, .invokevirtual 204, 3), (1686, .aload_n 2, 1), (1687, .invokevirtual 207, 3), (1690, .if_icmp .eq 622, 3), (1693, .iconst 0, 1), (1694, .ireturn, 1)] = true := by decide +kernel
theorem t_L_law_1695 : mx_dec cL_law [(1695, .aload_n 1, 1), (1696, .aload_n 0, 1), (1697, .iload 4, 2), (1699, .iconst 1, 1), (1700, .iadd, 1), (1701, .iaload, 1), (1702, .aload_n 0, 1), (1703, .iload 4, 2), (1705, .iconst 2, 1), (1706, .iadd, 1), (1707, .iaload, 1), (1708, .aload_n 0, 1), (1709, .iload 4, 2), (1711, .iconst 3, 1), (1712, .iadd, 1), (1713, .iaload, 1), (1714, .aload_n 3, 1), (1715, .invokestatic 208, 3), (1718, .istore 5, 2), (1720, .aload_n 2, 1), (1721, .aload_n 0, 1), (1722, .iload 4, 2), (1724, .iconst 1, 1), (1725, .iadd, 1), (1726, .iaload, 1), (1727, .aload_n 0, 1), (1728, .iload 4, 2), (1730, .iconst 2, 1), (1731, .iadd, 1), (1732, .iaload, 1), (1733, .aload_n 0, 1), (1734, .iload 4, 2), (1736, .iconst 3, 1), (1737, .iadd, 1), (1738, .iaload, 1), (1739, .invokevirtual 210, 3), (1742, .istore 6, 2), (1744, .aload_n 2, 1), (1745, .invokevirtual 117, 3), (1748, .iload 5, 2), (1750, .if_icmp .eq 5, 3), (1753, .iconst 0, 1), (1754, .ireturn, 1), (1755, .iload 5, 2), (1757, .ifCond .ne 15, 3), (1760, .aload_n 3, 1), (1761, .iconst 0, 1), (1762, .laload, 1), (1763, .iload 6, 2), (1765, .i2l, 1), (1766, .lcmp, 1), (1767, .ifCond .eq 5, 3), (1770, .iconst 0, 1), (1771, .ireturn, 1), (1772, .goto 540, 3)] = true := by decide +kernel
theorem t_L_law_1775 : mx_dec cL_law [(1775, .aload_n 1, 1), (1776, .aload_n 0, 1), (1777, .iload 4, 2), (1779, .iconst 1, 1), (1780, .iadd, 1), (1781, .iaload, 1), (1782, .aload_n 0, 1), (1783, .iload 4, 2), (1785, .iconst 2, 1), (1786, .iadd, 1), (1787, .iaload, 1), (1788, .aload_n 0, 1), (1789, .iload 4, 2), (1791, .iconst 3, 1), (1792, .iadd, 1), (1793, .iaload, 1), (1794, .aload_n 0, 1), (1795, .iload 4, 2), (1797, .iconst 4, 1), (1798, .iadd, 1), (1799, .iaload, 1), (1800, .aload_n 3, 1), (1801, .invokestatic 211, 3), (1804, .istore 5, 2), (1806, .aload_n 2, 1), (1807, .aload_n 0, 1), (1808, .iload 4, 2), (1810, .iconst 1, 1), (1811, .iadd, 1), (1812, .iaload, 1), (1813, .aload_n 0, 1), (1814, .iload 4, 2), (1816, .iconst 2, 1), (1817, .iadd, 1), (1818, .iaload, 1), (1819, .aload_n 0, 1), (1820, .iload 4, 2), (1822, .iconst 3, 1), (1823, .iadd, 1), (1824, .iaload, 1), (1825, .aload_n 0, 1), (1826, .iload 4, 2), (1828, .iconst 4, 1), (1829, .iadd, 1), (1830, .iaload, 1), (1831, .invokevirtual 214, 3), (1834, .istore 6, 2), (1836, .aload_n 2, 1), (1837, .invokevirtual 117, 3), (1840, .iload 5, 2), (1842, .if_icmp .eq 5, 3), (1845, .iconst 0, 1), (1846, .ireturn, 1), (1847, .iload 5, 2), (1849, .ifCond .ne 15, 3), (1852, .aload_n 3, 1), (1853, .iconst 0, 1), (1854, .laload, 1), (1855, .iload 6, 2), (1857, .i2l, 1), (1858, .lcmp, 1), (1859, .ifCond .eq 5, 3), (1862, .iconst 0, 1), (1863, .ireturn, 1), (1864, .goto 448, 3)] = true := by decide +kernel
theorem t_L_law_1867 : mx_dec cL_law [(1867, .aload_n 1, 1), (1868, .aload_n 0, 1), (1869, .iload 4, 2), (1871, .iconst 1, 1), (1872, .iadd, 1), (1873, .iaload, 1), (1874, .aload_n 0, 1), (1875, .iload 4, 2), (1877, .iconst 2, 1), (1878, .iadd, 1), (1879, .iaload, 1), (1880, .aload_n 0, 1), (1881, .iload 4, 2), (1883, .iconst 3, 1), (1884, .iadd, 1), (1885, .iaload, 1), (1886, .aload_n 3, 1), (1887, .invokestatic 215, 3), (1890, .istore 5, 2), (1892, .aload_n 2, 1), (1893, .aload_n 0, 1), (1894, .iload 4, 2), (1896, .iconst 1, 1), (1897, .iadd, 1), (1898, .iaload, 1), (1899, .aload_n 0, 1), (1900, .iload 4, 2), (1902, .iconst 2, 1), (1903, .iadd, 1), (1904, .iaload, 1), (1905, .aload_n 0, 1), (1906, .iload 4, 2), (1908, .iconst 3, 1), (1909, .iadd, 1), (1910, .iaload, 1), (1911, .invokevirtual 217, 3), (1914, .istore 6, 2), (1916, .aload_n 2, 1), (1917, .invokevirtual 117, 3), (1920, .iload 5, 2), (1922, .if_icmp .eq 5, 3), (1925, .iconst 0, 1), (1926, .ireturn, 1), (1927, .iload 5, 2), (1929, .ifCond .ne 15, 3), (1932, .aload_n 3, 1), (1933, .iconst 0, 1), (1934, .laload, 1), (1935, .iload 6, 2), (1937, .i2l, 1), (1938, .lcmp, 1), (1939, .ifCond .eq 5, 3), (1942, .iconst 0, 1), (1943, .ireturn, 1), (1944, .goto 368, 3)] = true := by decide +kernel
theorem t_L_law_1947 : mx_dec cL_law [(1947, .aload_n 1, 1), (1948, .aload_n 0, 1), (1949, .iload 4, 2), (1951, .iconst 1, 1), (1952, .iadd, 1), (1953, .iaload, 1), (1954, .aload_n 3, 1), (1955, .invokestatic 218, 3), (1958, .istore 5, 2), (1960, .aload_n 2, 1), (1961, .aload_n 0, 1), (1962, .iload 4, 2), (1964, .iconst 1, 1), (1965, .iadd, 1), (1966, .iaload, 1), (1967, .invokevirtual 220, 3), (1970, .istore 6, 2), (1972, .aload_n 2, 1), (1973, .invokevirtual 117, 3), (1976, .iload 5, 2), (1978, .if_icmp .eq 5, 3), (1981, .iconst 0, 1), (1982, .ireturn, 1), (1983, .iload 5, 2), (1985, .ifCond .ne 15, 3), (1988, .aload_n 3, 1), (1989, .iconst 0, 1), (1990, .laload, 1), (1991, .iload 6, 2), (1993, .i2l, 1), (1994, .lcmp, 1), (1995, .ifCond .eq 5, 3), (1998, .iconst 0, 1), (1999, .ireturn, 1), (2000, .goto 312, 3)] = true := by decide +kernel
theorem t_L_law_2003 : mx_dec cL_law [(2003, .aload_n 1, 1), (2004, .invokevirtual 221, 3), (2007, .aload_n 2, 1), (2008, .invokevirtual 224, 3), (2011, .if_icmp .eq 301, 3), (2014, .iconst 0, 1), (2015, .ireturn, 1)] = true := by decide +kernel
theorem t_L_law_2016 : mx_dec cL_law [(2016, .aload_n 1, 1), (2017, .aload_n 0, 1), (2018, .iload 4, 2), (2020, .iconst 1, 1), (2021, .iadd, 1), (2022, .iaload, 1), (2023, .aload_n 3, 1), (2024, .invokestatic 225, 3), (2027, .istore 5, 2), (2029, .aload_n 2, 1), (2030, .aload_n 0, 1), (2031, .iload 4, 2), (2033, .iconst 1, 1), (2034, .iadd, 1), (2035, .iaload, 1), (2036, .invokevirtual 227, 3), (2039, .istore 6, 2), (2041, .aload_n 2, 1), (2042, .invokevirtual 117, 3), (2045, .iload 5, 2), (2047, .if_icmp .eq 5, 3), (2050, .iconst 0, 1), (2051, .ireturn, 1), (2052, .iload 5, 2), (2054, .ifCond .ne 15, 3), (2057, .aload_n 3, 1), (2058, .iconst 0, 1), (2059, .laload, 1), (2060, .iload 6, 2), (2062, .i2l, 1), (2063, .lcmp, 1), (2064, .ifCond .eq 5, 3), (2067, .iconst 0, 1), (2068, .ireturn, 1), (2069, .goto 243, 3)] = true := by decide +kernel
theorem t_L_law_2072 : mx_dec cL_law [(2072, .aload_n 1, 1), (2073, .aload_n 0, 1), (2074, .iload 4, 2), (2076, .iconst 1, 1), (2077, .iadd, 1), (2078, .iaload, 1), (2079, .aload_n 0, 1), (2080, .iload 4, 2), (2082, .iconst 2, 1), (2083, .iadd, 1), (2084, .iaload, 1), (2085, .aload_n 3, 1), (2086, .invokestatic 228, 3), (2089, .istore 5, 2), (2091, .aload_n 2, 1), (2092, .aload_n 0, 1), (2093, .iload 4, 2), (2095, .iconst 1, 1), (2096, .iadd, 1), (2097, .iaload, 1), (2098, .aload_n 0, 1), (2099, .iload 4, 2), (2101, .iconst 2, 1), (2102, .iadd, 1), (2103, .iaload, 1), (2104, .invokevirtual 230, 3), (2107, .istore 6, 2), (2109, .aload_n 2, 1), (2110, .invokevirtual 117, 3), (2113, .iload 5, 2), (2115, .if_icmp .eq 5, 3), (2118, .iconst 0, 1), (2119, .ireturn, 1), (2120, .iload 5, 2), (2122, .ifCond .ne 15, 3), (2125, .aload_n 3, 1), (2126, .iconst 0, 1), (2127, .laload, 1), (2128, .iload 6, 2), (2130, .i2l, 1), (2131, .lcmp, 1), (2132, .ifCond .eq 5, 3), (2135, .iconst 0, 1), (2136, .ireturn, 1), (2137, .goto 175, 3)] = true := by decide +kernel
theorem t_L_law_2140 : mx_dec cL_law [(2140, .aload_n 1, 1), (2141, .aload_n 0, 1), (2142, .iload 4, 2), (2144, .iconst 1, 1), (2145, .iadd, 1), (2146, .iaload, 1), (2147, .aload_n 0, 1), (2148, .iload 4, 2), (2150, .iconst 2, 1), (2151, .iadd, 1), (2152, .iaload, 1), (2153, .aload_n 3, 1), (2154, .invokestatic 231, 3), (2157, .istore 5, 2), (2159, .aload_n 2, 1), (2160, .aload_n 0, 1), (2161, .iload 4, 2), (2163, .iconst 1, 1), (2164, .iadd, 1), (2165, .iaload, 1), (2166, .aload_n 0, 1), (2167, .iload 4, 2), (2169, .iconst 2, 1), (2170, .iadd, 1), (2171, .iaload, 1), (2172, .invokevirtual 233, 3), (2175, .istore 6, 2), (2177, .aload_n 2, 1), (2178, .invokevirtual 117, 3), (2181, .iload 5, 2), (2183, .if_icmp .eq 5, 3), (2186, .iconst 0, 1), (2187, .ireturn, 1), (2188, .iload 5, 2), (2190, .ifCond .ne 15, 3), (2193, .aload_n 3, 1), (2194, .iconst 0, 1), (2195, .laload, 1), (2196, .iload 6, 2), (2198, .i2l, 1), (2199, .lcmp, 1), (2200, .ifCond .eq 5, 3), (2203, .iconst 0, 1), (2204, .ireturn, 1), (2205, .goto 107, 3)] = true := by decide +kernel
theorem t_L_law_2208 : mx_dec cL_law [(2208, .aload_n 1, 1), (2209, .aload_n 0, 1), (2210, .iload 4, 2), (2212, .iconst 1, 1), (2213, .iadd, 1), (2214, .iaload, 1), (2215, .aload_n 0, 1), (2216, .iload 4, 2), (2218, .iconst 2, 1), (2219, .iadd, 1), (2220, .iaload, 1), (2221, .aload_n 0, 1), (2222, .iload 4, 2), (2224, .iconst 3, 1), (2225, .iadd, 1), (2226, .iaload, 1), (2227, .aload_n 3, 1), (2228, .invokestatic 234, 3), (2231, .istore 5, 2), (2233, .aload_n 2, 1), (2234, .aload_n 0, 1), (2235, .iload 4, 2), (2237, .iconst 1, 1), (2238, .iadd, 1), (2239, .iaload, 1), (2240, .aload_n 0, 1), (2241, .iload 4, 2), (2243, .iconst 2, 1), (2244, .iadd, 1), (2245, .iaload, 1), (2246, .aload_n 0, 1), (2247, .iload 4, 2), (2249, .iconst 3, 1), (2250, .iadd, 1), (2251, .iaload, 1), (2252, .invokevirtual 236, 3), (2255, .istore 6, 2), (2257, .aload_n 2, 1), (2258, .invokevirtual 117, 3), (2261, .iload 5, 2), (2263, .if_icmp .eq 5, 3), (2266, .iconst 0, 1), (2267, .ireturn, 1), (2268, .iload 5, 2), (2270, .ifCond .ne 15, 3), (2273, .aload_n 3, 1), (2274, .iconst 0, 1), (2275, .laload, 1), (2276, .iload 6, 2), (2278, .i2l, 1), (2279, .lcmp, 1), (2280, .ifCond .eq 5, 3), (2283, .iconst 0, 1), (2284, .ireturn, 1), (2285, .goto 27, 3)] = true := by decide +kernel
theorem t_L_law_2288 : mx_dec cL_law [(2288, .aload_n 1, 1), (2289, .invokevirtual 237, 3), (2292, .aload_n 2, 1), (2293, .invokevirtual 240, 3), (2296, .goto 16, 3)] = true := by decide +kernel
theorem t_L_law_2299 : mx_dec cL_law [(2299, .aload_n 1, 1), (2300, .invokevirtual 241, 3), (2303, .aload_n 2, 1), (2304, .invokevirtual 245, 3), (2307, .if_icmp .eq 5, 3), (2310, .iconst 0, 1), (2311, .ireturn, 1)] = true := by decide +kernel
theorem t_L_law_2312 : mx_dec cL_law [(2312, .iinc 4 6, 3), (2315, .goto (-2292), 3), (2318, .iconst 1, 1), (2319, .ireturn, 1)] = true := by decide +kernel
set_option maxHeartbeats 4000000 in
theorem x_L_law_23 {d : Nat} {M : mx_M} {Q : mx_O → mx_M → Prop} (T : mx_Tp M) (v4 : Int32)
    (h : ((((Int32.ofNat (mx_scr M).1) - 6) < v4 → Q (.inl (some (.int (mx_b true)))) M) ∧ (¬ ((Int32.ofNat (mx_scr M).1) - 6) < v4 → (vp_in v4 (mx_scr M).1 ∧ (((((mx_scr M).2 v4.toNatClampNeg) &&& 63) = 0 → mx_W m_L_law (d + 1) 212 [.retAddr 1, .ref 1, .ref 58, .ref 98, .int v4, .retAddr 0, .retAddr 0] [] M Q) ∧ ((((mx_scr M).2 v4.toNatClampNeg) &&& 63) = 1 → mx_W m_L_law (d + 1) 285 [.retAddr 1, .ref 1, .ref 58, .ref 98, .int v4, .retAddr 0, .retAddr 0] [] M Q) ∧ ((((mx_scr M).2 v4.toNatClampNeg) &&& 63) = 2 → mx_W m_L_law (d + 1) 341 [.retAddr 1, .ref 1, .ref 58, .ref 98, .int v4, .retAddr 0, .retAddr 0] [] M Q) ∧ ((((mx_scr M).2 v4.toNatClampNeg) &&& 63) = 3 → mx_W m_L_law (d + 1) 354 [.retAddr 1, .ref 1, .ref 58, .ref 98, .int v4, .retAddr 0, .retAddr 0] [] M Q) ∧ ((((mx_scr M).2 v4.toNatClampNeg) &&& 63) = 4 → mx_W m_L_law (d + 1) 410 [.retAddr 1, .ref 1, .ref 58, .ref 98, .int v4, .retAddr 0, .retAddr 0] [] M Q) ∧ ((((mx_scr M).2 v4.toNatClampNeg) &&& 63) = 5 → mx_W m_L_law (d + 1) 478 [.retAddr 1, .ref 1, .ref 58, .ref 98, .int v4, .retAddr 0, .retAddr 0] [] M Q) ∧ ((((mx_scr M).2 v4.toNatClampNeg) &&& 63) = 6 → mx_W m_L_law (d + 1) 546 [.retAddr 1, .ref 1, .ref 58, .ref 98, .int v4, .retAddr 0, .retAddr 0] [] M Q) ∧ ((((mx_scr M).2 v4.toNatClampNeg) &&& 63) = 7 → mx_W m_L_law (d + 1) 626 [.retAddr 1, .ref 1, .ref 58, .ref 98, .int v4, .retAddr 0, .retAddr 0] [] M Q) ∧ ((((mx_scr M).2 v4.toNatClampNeg) &&& 63) = 8 → mx_W m_L_law (d + 1) 713 [.retAddr 1, .ref 1, .ref 58, .ref 98, .int v4, .retAddr 0, .retAddr 0] [] M Q) ∧ ((((mx_scr M).2 v4.toNatClampNeg) &&& 63) = 9 → mx_W m_L_law (d + 1) 781 [.retAddr 1, .ref 1, .ref 58, .ref 98, .int v4, .retAddr 0, .retAddr 0] [] M Q) ∧ ((((mx_scr M).2 v4.toNatClampNeg) &&& 63) = 10 → mx_W m_L_law (d + 1) 849 [.retAddr 1, .ref 1, .ref 58, .ref 98, .int v4, .retAddr 0, .retAddr 0] [] M Q) ∧ ((((mx_scr M).2 v4.toNatClampNeg) &&& 63) = 11 → mx_W m_L_law (d + 1) 905 [.retAddr 1, .ref 1, .ref 58, .ref 98, .int v4, .retAddr 0, .retAddr 0] [] M Q) ∧ ((((mx_scr M).2 v4.toNatClampNeg) &&& 63) = 12 → mx_W m_L_law (d + 1) 973 [.retAddr 1, .ref 1, .ref 58, .ref 98, .int v4, .retAddr 0, .retAddr 0] [] M Q) ∧ ((((mx_scr M).2 v4.toNatClampNeg) &&& 63) = 13 → mx_W m_L_law (d + 1) 1029 [.retAddr 1, .ref 1, .ref 58, .ref 98, .int v4, .retAddr 0, .retAddr 0] [] M Q) ∧ ((((mx_scr M).2 v4.toNatClampNeg) &&& 63) = 14 → mx_W m_L_law (d + 1) 1097 [.retAddr 1, .ref 1, .ref 58, .ref 98, .int v4, .retAddr 0, .retAddr 0] [] M Q) ∧ ((((mx_scr M).2 v4.toNatClampNeg) &&& 63) = 15 → mx_W m_L_law (d + 1) 1153 [.retAddr 1, .ref 1, .ref 58, .ref 98, .int v4, .retAddr 0, .retAddr 0] [] M Q) ∧ ((((mx_scr M).2 v4.toNatClampNeg) &&& 63) = 16 → mx_W m_L_law (d + 1) 1166 [.retAddr 1, .ref 1, .ref 58, .ref 98, .int v4, .retAddr 0, .retAddr 0] [] M Q) ∧ ((((mx_scr M).2 v4.toNatClampNeg) &&& 63) = 17 → mx_W m_L_law (d + 1) 1246 [.retAddr 1, .ref 1, .ref 58, .ref 98, .int v4, .retAddr 0, .retAddr 0] [] M Q) ∧ ((((mx_scr M).2 v4.toNatClampNeg) &&& 63) = 18 → mx_W m_L_law (d + 1) 1314 [.retAddr 1, .ref 1, .ref 58, .ref 98, .int v4, .retAddr 0, .retAddr 0] [] M Q) ∧ ((((mx_scr M).2 v4.toNatClampNeg) &&& 63) = 19 → mx_W m_L_law (d + 1) 1327 [.retAddr 1, .ref 1, .ref 58, .ref 98, .int v4, .retAddr 0, .retAddr 0] [] M Q) ∧ ((((mx_scr M).2 v4.toNatClampNeg) &&& 63) = 20 → mx_W m_L_law (d + 1) 1340 [.retAddr 1, .ref 1, .ref 58, .ref 98, .int v4, .retAddr 0, .retAddr 0] [] M Q) ∧ ((((mx_scr M).2 v4.toNatClampNeg) &&& 63) = 21 → mx_W m_L_law (d + 1) 1396 [.retAddr 1, .ref 1, .ref 58, .ref 98, .int v4, .retAddr 0, .retAddr 0] [] M Q) ∧ ((((mx_scr M).2 v4.toNatClampNeg) &&& 63) = 22 → mx_W m_L_law (d + 1) 1452 [.retAddr 1, .ref 1, .ref 58, .ref 98, .int v4, .retAddr 0, .retAddr 0] [] M Q) ∧ ((((mx_scr M).2 v4.toNatClampNeg) &&& 63) = 23 → mx_W m_L_law (d + 1) 1532 [.retAddr 1, .ref 1, .ref 58, .ref 98, .int v4, .retAddr 0, .retAddr 0] [] M Q) ∧ ((((mx_scr M).2 v4.toNatClampNeg) &&& 63) = 24 → mx_W m_L_law (d + 1) 1545 [.retAddr 1, .ref 1, .ref 58, .ref 98, .int v4, .retAddr 0, .retAddr 0] [] M Q) ∧ ((((mx_scr M).2 v4.toNatClampNeg) &&& 63) = 25 → mx_W m_L_law (d + 1) 1558 [.retAddr 1, .ref 1, .ref 58, .ref 98, .int v4, .retAddr 0, .retAddr 0] [] M Q) ∧ ((((mx_scr M).2 v4.toNatClampNeg) &&& 63) = 26 → mx_W m_L_law (d + 1) 1614 [.retAddr 1, .ref 1, .ref 58, .ref 98, .int v4, .retAddr 0, .retAddr 0] [] M Q) ∧ ((((mx_scr M).2 v4.toNatClampNeg) &&& 63) = 27 → mx_W m_L_law (d + 1) 1682 [.retAddr 1, .ref 1, .ref 58, .ref 98, .int v4, .retAddr 0, .retAddr 0] [] M Q) ∧ ((((mx_scr M).2 v4.toNatClampNeg) &&& 63) = 28 → mx_W m_L_law (d + 1) 1695 [.retAddr 1, .ref 1, .ref 58, .ref 98, .int v4, .retAddr 0, .retAddr 0] [] M Q) ∧ ((((mx_scr M).2 v4.toNatClampNeg) &&& 63) = 29 → mx_W m_L_law (d + 1) 1775 [.retAddr 1, .ref 1, .ref 58, .ref 98, .int v4, .retAddr 0, .retAddr 0] [] M Q) ∧ ((((mx_scr M).2 v4.toNatClampNeg) &&& 63) = 30 → mx_W m_L_law (d + 1) 1867 [.retAddr 1, .ref 1, .ref 58, .ref 98, .int v4, .retAddr 0, .retAddr 0] [] M Q) ∧ ((((mx_scr M).2 v4.toNatClampNeg) &&& 63) = 31 → mx_W m_L_law (d + 1) 1947 [.retAddr 1, .ref 1, .ref 58, .ref 98, .int v4, .retAddr 0, .retAddr 0] [] M Q) ∧ ((((mx_scr M).2 v4.toNatClampNeg) &&& 63) = 32 → mx_W m_L_law (d + 1) 2003 [.retAddr 1, .ref 1, .ref 58, .ref 98, .int v4, .retAddr 0, .retAddr 0] [] M Q) ∧ ((((mx_scr M).2 v4.toNatClampNeg) &&& 63) = 33 → mx_W m_L_law (d + 1) 2016 [.retAddr 1, .ref 1, .ref 58, .ref 98, .int v4, .retAddr 0, .retAddr 0] [] M Q) ∧ ((((mx_scr M).2 v4.toNatClampNeg) &&& 63) = 34 → mx_W m_L_law (d + 1) 2072 [.retAddr 1, .ref 1, .ref 58, .ref 98, .int v4, .retAddr 0, .retAddr 0] [] M Q) ∧ ((((mx_scr M).2 v4.toNatClampNeg) &&& 63) = 35 → mx_W m_L_law (d + 1) 2140 [.retAddr 1, .ref 1, .ref 58, .ref 98, .int v4, .retAddr 0, .retAddr 0] [] M Q) ∧ ((((mx_scr M).2 v4.toNatClampNeg) &&& 63) = 36 → mx_W m_L_law (d + 1) 2208 [.retAddr 1, .ref 1, .ref 58, .ref 98, .int v4, .retAddr 0, .retAddr 0] [] M Q) ∧ ((((mx_scr M).2 v4.toNatClampNeg) &&& 63) = 37 → mx_W m_L_law (d + 1) 2288 [.retAddr 1, .ref 1, .ref 58, .ref 98, .int v4, .retAddr 0, .retAddr 0] [] M Q) ∧ ((((mx_scr M).2 v4.toNatClampNeg) &&& 63) = 38 → mx_W m_L_law (d + 1) 2299 [.retAddr 1, .ref 1, .ref 58, .ref 98, .int v4, .retAddr 0, .retAddr 0] [] M Q) ∧ (¬ (((mx_scr M).2 v4.toNatClampNeg) &&& 63) = 0 → ¬ (((mx_scr M).2 v4.toNatClampNeg) &&& 63) = 1 → ¬ (((mx_scr M).2 v4.toNatClampNeg) &&& 63) = 2 → ¬ (((mx_scr M).2 v4.toNatClampNeg) &&& 63) = 3 → ¬ (((mx_scr M).2 v4.toNatClampNeg) &&& 63) = 4 → ¬ (((mx_scr M).2 v4.toNatClampNeg) &&& 63) = 5 → ¬ (((mx_scr M).2 v4.toNatClampNeg) &&& 63) = 6 → ¬ (((mx_scr M).2 v4.toNatClampNeg) &&& 63) = 7 → ¬ (((mx_scr M).2 v4.toNatClampNeg) &&& 63) = 8 → ¬ (((mx_scr M).2 v4.toNatClampNeg) &&& 63) = 9 → ¬ (((mx_scr M).2 v4.toNatClampNeg) &&& 63) = 10 → ¬ (((mx_scr M).2 v4.toNatClampNeg) &&& 63) = 11 → ¬ (((mx_scr M).2 v4.toNatClampNeg) &&& 63) = 12 → ¬ (((mx_scr M).2 v4.toNatClampNeg) &&& 63) = 13 → ¬ (((mx_scr M).2 v4.toNatClampNeg) &&& 63) = 14 → ¬ (((mx_scr M).2 v4.toNatClampNeg) &&& 63) = 15 → ¬ (((mx_scr M).2 v4.toNatClampNeg) &&& 63) = 16 → ¬ (((mx_scr M).2 v4.toNatClampNeg) &&& 63) = 17 → ¬ (((mx_scr M).2 v4.toNatClampNeg) &&& 63) = 18 → ¬ (((mx_scr M).2 v4.toNatClampNeg) &&& 63) = 19 → ¬ (((mx_scr M).2 v4.toNatClampNeg) &&& 63) = 20 → ¬ (((mx_scr M).2 v4.toNatClampNeg) &&& 63) = 21 → ¬ (((mx_scr M).2 v4.toNatClampNeg) &&& 63) = 22 → ¬ (((mx_scr M).2 v4.toNatClampNeg) &&& 63) = 23 → ¬ (((mx_scr M).2 v4.toNatClampNeg) &&& 63) = 24 → ¬ (((mx_scr M).2 v4.toNatClampNeg) &&& 63) = 25 → ¬ (((mx_scr M).2 v4.toNatClampNeg) &&& 63) = 26 → ¬ (((mx_scr M).2 v4.toNatClampNeg) &&& 63) = 27 → ¬ (((mx_scr M).2 v4.toNatClampNeg) &&& 63) = 28 → ¬ (((mx_scr M).2 v4.toNatClampNeg) &&& 63) = 29 → ¬ (((mx_scr M).2 v4.toNatClampNeg) &&& 63) = 30 → ¬ (((mx_scr M).2 v4.toNatClampNeg) &&& 63) = 31 → ¬ (((mx_scr M).2 v4.toNatClampNeg) &&& 63) = 32 → ¬ (((mx_scr M).2 v4.toNatClampNeg) &&& 63) = 33 → ¬ (((mx_scr M).2 v4.toNatClampNeg) &&& 63) = 34 → ¬ (((mx_scr M).2 v4.toNatClampNeg) &&& 63) = 35 → ¬ (((mx_scr M).2 v4.toNatClampNeg) &&& 63) = 36 → ¬ (((mx_scr M).2 v4.toNatClampNeg) &&& 63) = 37 → ¬ (((mx_scr M).2 v4.toNatClampNeg) &&& 63) = 38 → mx_W m_L_law (d + 1) 2312 [.retAddr 1, .ref 1, .ref 58, .ref 98, .int v4, .retAddr 0, .retAddr 0] [] M Q)))))) :
    mx_W m_L_law (d + 1) 23 [.retAddr 1, .ref 1, .ref 58, .ref 98, .int v4, .retAddr 0, .retAddr 0] [] M Q := by
  refine mx_iload 4 (mx_da t_L_law_23 0 rfl) rfl rfl ?_
  refine mx_aload_n 0 (mx_da t_L_law_23 1 rfl) rfl rfl rfl rfl ?_
  refine mx_slen (mx_da t_L_law_23 2 rfl) rfl ?_
  refine mx_bipush (v := 6) (mx_da t_L_law_23 3 rfl) rfl rfl ?_
  refine mx_isub (mx_da t_L_law_23 4 rfl) rfl ?_
  refine mx_icmp_gt 2318 (mx_da t_L_law_23 5 rfl) rfl rfl (fun g9 => ?_) (fun g9 => ?_)
  · have h := h.1 g9
    refine mx_iconst (v := 1) (mx_da t_L_law_2312 2 rfl) rfl rfl ?_
    exact mx_zret rfl rfl (mx_da t_L_law_2312 3 rfl) h
  · have h := h.2 g9
    refine mx_aload_n 0 (mx_da t_L_law_23 6 rfl) rfl rfl rfl rfl ?_
    refine mx_iload 4 (mx_da t_L_law_23 7 rfl) rfl rfl ?_
    refine mx_sld h.1 (mx_da t_L_law_23 8 rfl) rfl ?_
    have h := h.2
    refine mx_bipush (v := 63) (mx_da t_L_law_23 9 rfl) rfl rfl ?_
    refine mx_iand (mx_da t_L_law_23 10 rfl) rfl ?_
    by_cases hc0 : ((mx_scr M).2 v4.toNatClampNeg) &&& 63 = 0
    · have h := h.1 hc0
      refine mx_tsIn (n := 212) 0 hc0 (mx_da t_L_law_23 11 rfl) (by decide) (by decide) rfl rfl ?_
      exact h
    by_cases hc1 : ((mx_scr M).2 v4.toNatClampNeg) &&& 63 = 1
    · have h := h.2.1 hc1
      refine mx_tsIn (n := 285) 1 hc1 (mx_da t_L_law_23 11 rfl) (by decide) (by decide) rfl rfl ?_
      exact h
    by_cases hc2 : ((mx_scr M).2 v4.toNatClampNeg) &&& 63 = 2
    · have h := h.2.2.1 hc2
      refine mx_tsIn (n := 341) 2 hc2 (mx_da t_L_law_23 11 rfl) (by decide) (by decide) rfl rfl ?_
      exact h
    by_cases hc3 : ((mx_scr M).2 v4.toNatClampNeg) &&& 63 = 3
    · have h := h.2.2.2.1 hc3
      refine mx_tsIn (n := 354) 3 hc3 (mx_da t_L_law_23 11 rfl) (by decide) (by decide) rfl rfl ?_
      exact h
    by_cases hc4 : ((mx_scr M).2 v4.toNatClampNeg) &&& 63 = 4
    · have h := h.2.2.2.2.1 hc4
      refine mx_tsIn (n := 410) 4 hc4 (mx_da t_L_law_23 11 rfl) (by decide) (by decide) rfl rfl ?_
      exact h
    by_cases hc5 : ((mx_scr M).2 v4.toNatClampNeg) &&& 63 = 5
    · have h := h.2.2.2.2.2.1 hc5
      refine mx_tsIn (n := 478) 5 hc5 (mx_da t_L_law_23 11 rfl) (by decide) (by decide) rfl rfl ?_
      exact h
    by_cases hc6 : ((mx_scr M).2 v4.toNatClampNeg) &&& 63 = 6
    · have h := h.2.2.2.2.2.2.1 hc6
      refine mx_tsIn (n := 546) 6 hc6 (mx_da t_L_law_23 11 rfl) (by decide) (by decide) rfl rfl ?_
      exact h
    by_cases hc7 : ((mx_scr M).2 v4.toNatClampNeg) &&& 63 = 7
    · have h := h.2.2.2.2.2.2.2.1 hc7
      refine mx_tsIn (n := 626) 7 hc7 (mx_da t_L_law_23 11 rfl) (by decide) (by decide) rfl rfl ?_
      exact h
    by_cases hc8 : ((mx_scr M).2 v4.toNatClampNeg) &&& 63 = 8
    · have h := h.2.2.2.2.2.2.2.2.1 hc8
      refine mx_tsIn (n := 713) 8 hc8 (mx_da t_L_law_23 11 rfl) (by decide) (by decide) rfl rfl ?_
      exact h
    by_cases hc9 : ((mx_scr M).2 v4.toNatClampNeg) &&& 63 = 9
    · have h := h.2.2.2.2.2.2.2.2.2.1 hc9
      refine mx_tsIn (n := 781) 9 hc9 (mx_da t_L_law_23 11 rfl) (by decide) (by decide) rfl rfl ?_
      exact h
    by_cases hc10 : ((mx_scr M).2 v4.toNatClampNeg) &&& 63 = 10
    · have h := h.2.2.2.2.2.2.2.2.2.2.1 hc10
      refine mx_tsIn (n := 849) 10 hc10 (mx_da t_L_law_23 11 rfl) (by decide) (by decide) rfl rfl ?_
      exact h
    by_cases hc11 : ((mx_scr M).2 v4.toNatClampNeg) &&& 63 = 11
    · have h := h.2.2.2.2.2.2.2.2.2.2.2.1 hc11
      refine mx_tsIn (n := 905) 11 hc11 (mx_da t_L_law_23 11 rfl) (by decide) (by decide) rfl rfl ?_
      exact h
    by_cases hc12 : ((mx_scr M).2 v4.toNatClampNeg) &&& 63 = 12
    · have h := h.2.2.2.2.2.2.2.2.2.2.2.2.1 hc12
      refine mx_tsIn (n := 973) 12 hc12 (mx_da t_L_law_23 11 rfl) (by decide) (by decide) rfl rfl ?_
      exact h
    by_cases hc13 : ((mx_scr M).2 v4.toNatClampNeg) &&& 63 = 13
    · have h := h.2.2.2.2.2.2.2.2.2.2.2.2.2.1 hc13
      refine mx_tsIn (n := 1029) 13 hc13 (mx_da t_L_law_23 11 rfl) (by decide) (by decide) rfl rfl ?_
      exact h
    by_cases hc14 : ((mx_scr M).2 v4.toNatClampNeg) &&& 63 = 14
    · have h := h.2.2.2.2.2.2.2.2.2.2.2.2.2.2.1 hc14
      refine mx_tsIn (n := 1097) 14 hc14 (mx_da t_L_law_23 11 rfl) (by decide) (by decide) rfl rfl ?_
      exact h
    by_cases hc15 : ((mx_scr M).2 v4.toNatClampNeg) &&& 63 = 15
    · have h := h.2.2.2.2.2.2.2.2.2.2.2.2.2.2.2.1 hc15
      refine mx_tsIn (n := 1153) 15 hc15 (mx_da t_L_law_23 11 rfl) (by decide) (by decide) rfl rfl ?_
      exact h
    by_cases hc16 : ((mx_scr M).2 v4.toNatClampNeg) &&& 63 = 16
    · have h := h.2.2.2.2.2.2.2.2.2.2.2.2.2.2.2.2.1 hc16
      refine mx_tsIn (n := 1166) 16 hc16 (mx_da t_L_law_23 11 rfl) (by decide) (by decide) rfl rfl ?_
      exact h
    by_cases hc17 : ((mx_scr M).2 v4.toNatClampNeg) &&& 63 = 17
    · have h := h.2.2.2.2.2.2.2.2.2.2.2.2.2.2.2.2.2.1 hc17
      refine mx_tsIn (n := 1246) 17 hc17 (mx_da t_L_law_23 11 rfl) (by decide) (by decide) rfl rfl ?_
      exact h
    by_cases hc18 : ((mx_scr M).2 v4.toNatClampNeg) &&& 63 = 18
    · have h := h.2.2.2.2.2.2.2.2.2.2.2.2.2.2.2.2.2.2.1 hc18
      refine mx_tsIn (n := 1314) 18 hc18 (mx_da t_L_law_23 11 rfl) (by decide) (by decide) rfl rfl ?_
      exact h
    by_cases hc19 : ((mx_scr M).2 v4.toNatClampNeg) &&& 63 = 19
    · have h := h.2.2.2.2.2.2.2.2.2.2.2.2.2.2.2.2.2.2.2.1 hc19
      refine mx_tsIn (n := 1327) 19 hc19 (mx_da t_L_law_23 11 rfl) (by decide) (by decide) rfl rfl ?_
      exact h
    by_cases hc20 : ((mx_scr M).2 v4.toNatClampNeg) &&& 63 = 20
    · have h := h.2.2.2.2.2.2.2.2.2.2.2.2.2.2.2.2.2.2.2.2.1 hc20
      refine mx_tsIn (n := 1340) 20 hc20 (mx_da t_L_law_23 11 rfl) (by decide) (by decide) rfl rfl ?_
      exact h
    by_cases hc21 : ((mx_scr M).2 v4.toNatClampNeg) &&& 63 = 21
    · have h := h.2.2.2.2.2.2.2.2.2.2.2.2.2.2.2.2.2.2.2.2.2.1 hc21
      refine mx_tsIn (n := 1396) 21 hc21 (mx_da t_L_law_23 11 rfl) (by decide) (by decide) rfl rfl ?_
      exact h
    by_cases hc22 : ((mx_scr M).2 v4.toNatClampNeg) &&& 63 = 22
    · have h := h.2.2.2.2.2.2.2.2.2.2.2.2.2.2.2.2.2.2.2.2.2.2.1 hc22
      refine mx_tsIn (n := 1452) 22 hc22 (mx_da t_L_law_23 11 rfl) (by decide) (by decide) rfl rfl ?_
      exact h
    by_cases hc23 : ((mx_scr M).2 v4.toNatClampNeg) &&& 63 = 23
    · have h := h.2.2.2.2.2.2.2.2.2.2.2.2.2.2.2.2.2.2.2.2.2.2.2.1 hc23
      refine mx_tsIn (n := 1532) 23 hc23 (mx_da t_L_law_23 11 rfl) (by decide) (by decide) rfl rfl ?_
      exact h
    by_cases hc24 : ((mx_scr M).2 v4.toNatClampNeg) &&& 63 = 24
    · have h := h.2.2.2.2.2.2.2.2.2.2.2.2.2.2.2.2.2.2.2.2.2.2.2.2.1 hc24
      refine mx_tsIn (n := 1545) 24 hc24 (mx_da t_L_law_23 11 rfl) (by decide) (by decide) rfl rfl ?_
      exact h
    by_cases hc25 : ((mx_scr M).2 v4.toNatClampNeg) &&& 63 = 25
    · have h := h.2.2.2.2.2.2.2.2.2.2.2.2.2.2.2.2.2.2.2.2.2.2.2.2.2.1 hc25
      refine mx_tsIn (n := 1558) 25 hc25 (mx_da t_L_law_23 11 rfl) (by decide) (by decide) rfl rfl ?_
      exact h
    by_cases hc26 : ((mx_scr M).2 v4.toNatClampNeg) &&& 63 = 26
    · have h := h.2.2.2.2.2.2.2.2.2.2.2.2.2.2.2.2.2.2.2.2.2.2.2.2.2.2.1 hc26
      refine mx_tsIn (n := 1614) 26 hc26 (mx_da t_L_law_23 11 rfl) (by decide) (by decide) rfl rfl ?_
      exact h
    by_cases hc27 : ((mx_scr M).2 v4.toNatClampNeg) &&& 63 = 27
    · have h := h.2.2.2.2.2.2.2.2.2.2.2.2.2.2.2.2.2.2.2.2.2.2.2.2.2.2.2.1 hc27
      refine mx_tsIn (n := 1682) 27 hc27 (mx_da t_L_law_23 11 rfl) (by decide) (by decide) rfl rfl ?_
      exact h
    by_cases hc28 : ((mx_scr M).2 v4.toNatClampNeg) &&& 63 = 28
    · have h := h.2.2.2.2.2.2.2.2.2.2.2.2.2.2.2.2.2.2.2.2.2.2.2.2.2.2.2.2.1 hc28
      refine mx_tsIn (n := 1695) 28 hc28 (mx_da t_L_law_23 11 rfl) (by decide) (by decide) rfl rfl ?_
      exact h
    by_cases hc29 : ((mx_scr M).2 v4.toNatClampNeg) &&& 63 = 29
    · have h := h.2.2.2.2.2.2.2.2.2.2.2.2.2.2.2.2.2.2.2.2.2.2.2.2.2.2.2.2.2.1 hc29
      refine mx_tsIn (n := 1775) 29 hc29 (mx_da t_L_law_23 11 rfl) (by decide) (by decide) rfl rfl ?_
      exact h
    by_cases hc30 : ((mx_scr M).2 v4.toNatClampNeg) &&& 63 = 30
    · have h := h.2.2.2.2.2.2.2.2.2.2.2.2.2.2.2.2.2.2.2.2.2.2.2.2.2.2.2.2.2.2.1 hc30
      refine mx_tsIn (n := 1867) 30 hc30 (mx_da t_L_law_23 11 rfl) (by decide) (by decide) rfl rfl ?_
      exact h
    by_cases hc31 : ((mx_scr M).2 v4.toNatClampNeg) &&& 63 = 31
    · have h := h.2.2.2.2.2.2.2.2.2.2.2.2.2.2.2.2.2.2.2.2.2.2.2.2.2.2.2.2.2.2.2.1 hc31
      refine mx_tsIn (n := 1947) 31 hc31 (mx_da t_L_law_23 11 rfl) (by decide) (by decide) rfl rfl ?_
      exact h
    by_cases hc32 : ((mx_scr M).2 v4.toNatClampNeg) &&& 63 = 32
    · have h := h.2.2.2.2.2.2.2.2.2.2.2.2.2.2.2.2.2.2.2.2.2.2.2.2.2.2.2.2.2.2.2.2.1 hc32
      refine mx_tsIn (n := 2003) 32 hc32 (mx_da t_L_law_23 11 rfl) (by decide) (by decide) rfl rfl ?_
      exact h
    by_cases hc33 : ((mx_scr M).2 v4.toNatClampNeg) &&& 63 = 33
    · have h := h.2.2.2.2.2.2.2.2.2.2.2.2.2.2.2.2.2.2.2.2.2.2.2.2.2.2.2.2.2.2.2.2.2.1 hc33
      refine mx_tsIn (n := 2016) 33 hc33 (mx_da t_L_law_23 11 rfl) (by decide) (by decide) rfl rfl ?_
      exact h
    by_cases hc34 : ((mx_scr M).2 v4.toNatClampNeg) &&& 63 = 34
    · have h := h.2.2.2.2.2.2.2.2.2.2.2.2.2.2.2.2.2.2.2.2.2.2.2.2.2.2.2.2.2.2.2.2.2.2.1 hc34
      refine mx_tsIn (n := 2072) 34 hc34 (mx_da t_L_law_23 11 rfl) (by decide) (by decide) rfl rfl ?_
      exact h
    by_cases hc35 : ((mx_scr M).2 v4.toNatClampNeg) &&& 63 = 35
    · have h := h.2.2.2.2.2.2.2.2.2.2.2.2.2.2.2.2.2.2.2.2.2.2.2.2.2.2.2.2.2.2.2.2.2.2.2.1 hc35
      refine mx_tsIn (n := 2140) 35 hc35 (mx_da t_L_law_23 11 rfl) (by decide) (by decide) rfl rfl ?_
      exact h
    by_cases hc36 : ((mx_scr M).2 v4.toNatClampNeg) &&& 63 = 36
    · have h := h.2.2.2.2.2.2.2.2.2.2.2.2.2.2.2.2.2.2.2.2.2.2.2.2.2.2.2.2.2.2.2.2.2.2.2.2.1 hc36
      refine mx_tsIn (n := 2208) 36 hc36 (mx_da t_L_law_23 11 rfl) (by decide) (by decide) rfl rfl ?_
      exact h
    by_cases hc37 : ((mx_scr M).2 v4.toNatClampNeg) &&& 63 = 37
    · have h := h.2.2.2.2.2.2.2.2.2.2.2.2.2.2.2.2.2.2.2.2.2.2.2.2.2.2.2.2.2.2.2.2.2.2.2.2.2.1 hc37
      refine mx_tsIn (n := 2288) 37 hc37 (mx_da t_L_law_23 11 rfl) (by decide) (by decide) rfl rfl ?_
      exact h
    by_cases hc38 : ((mx_scr M).2 v4.toNatClampNeg) &&& 63 = 38
    · have h := h.2.2.2.2.2.2.2.2.2.2.2.2.2.2.2.2.2.2.2.2.2.2.2.2.2.2.2.2.2.2.2.2.2.2.2.2.2.2.1 hc38
      refine mx_tsIn (n := 2299) 38 hc38 (mx_da t_L_law_23 11 rfl) (by decide) (by decide) rfl rfl ?_
      exact h
    have h := h.2.2.2.2.2.2.2.2.2.2.2.2.2.2.2.2.2.2.2.2.2.2.2.2.2.2.2.2.2.2.2.2.2.2.2.2.2.2.2 hc0 hc1 hc2 hc3 hc4 hc5 hc6 hc7 hc8 hc9 hc10 hc11 hc12 hc13 hc14 hc15 hc16 hc17 hc18 hc19 hc20 hc21 hc22 hc23 hc24 hc25 hc26 hc27 hc28 hc29 hc30 hc31 hc32 hc33 hc34 hc35 hc36 hc37 hc38
    refine mx_tsOut (n := 2312) (mx_da t_L_law_23 11 rfl) (by have g0 := mx_ne (n := 0) rfl hc0; have g1 := mx_ne (n := 1) rfl hc1; have g2 := mx_ne (n := 2) rfl hc2; have g3 := mx_ne (n := 3) rfl hc3; have g4 := mx_ne (n := 4) rfl hc4; have g5 := mx_ne (n := 5) rfl hc5; have g6 := mx_ne (n := 6) rfl hc6; have g7 := mx_ne (n := 7) rfl hc7; have g8 := mx_ne (n := 8) rfl hc8; have g9 := mx_ne (n := 9) rfl hc9; have g10 := mx_ne (n := 10) rfl hc10; have g11 := mx_ne (n := 11) rfl hc11; have g12 := mx_ne (n := 12) rfl hc12; have g13 := mx_ne (n := 13) rfl hc13; have g14 := mx_ne (n := 14) rfl hc14; have g15 := mx_ne (n := 15) rfl hc15; have g16 := mx_ne (n := 16) rfl hc16; have g17 := mx_ne (n := 17) rfl hc17; have g18 := mx_ne (n := 18) rfl hc18; have g19 := mx_ne (n := 19) rfl hc19; have g20 := mx_ne (n := 20) rfl hc20; have g21 := mx_ne (n := 21) rfl hc21; have g22 := mx_ne (n := 22) rfl hc22; have g23 := mx_ne (n := 23) rfl hc23; have g24 := mx_ne (n := 24) rfl hc24; have g25 := mx_ne (n := 25) rfl hc25; have g26 := mx_ne (n := 26) rfl hc26; have g27 := mx_ne (n := 27) rfl hc27; have g28 := mx_ne (n := 28) rfl hc28; have g29 := mx_ne (n := 29) rfl hc29; have g30 := mx_ne (n := 30) rfl hc30; have g31 := mx_ne (n := 31) rfl hc31; have g32 := mx_ne (n := 32) rfl hc32; have g33 := mx_ne (n := 33) rfl hc33; have g34 := mx_ne (n := 34) rfl hc34; have g35 := mx_ne (n := 35) rfl hc35; have g36 := mx_ne (n := 36) rfl hc36; have g37 := mx_ne (n := 37) rfl hc37; have g38 := mx_ne (n := 38) rfl hc38; omega) rfl ?_
    exact h
set_option maxHeartbeats 4000000 in
theorem x_L_law_212 {d : Nat} {M : mx_M} {Q : mx_O → mx_M → Prop} (T : mx_Tp M) (v4 : Int32)
    (h : (vp_in (v4 + 1) (mx_scr M).1 ∧ (vp_in (v4 + 2) (mx_scr M).1 ∧ (vp_in (v4 + 3) (mx_scr M).1 ∧ (vp_in (v4 + 4) (mx_scr M).1 ∧ (vp_in (v4 + 5) (mx_scr M).1 ∧ (mx_W m_X10_feed d 0 [.ref 1, .int ((mx_scr M).2 (v4 + 1).toNatClampNeg), .int ((mx_scr M).2 (v4 + 2).toNatClampNeg), .int ((mx_scr M).2 (v4 + 3).toNatClampNeg), .int ((mx_scr M).2 (v4 + 4).toNatClampNeg), .int ((mx_scr M).2 (v4 + 5).toNatClampNeg)] [] M (fun o M1 => mx_Tp M1 ∧ (∃ x2 : Int32, o = .inl (some (.int x2)) ∧ (vp_in (v4 + 1) (mx_scr M1).1 ∧ (vp_in (v4 + 2) (mx_scr M1).1 ∧ (vp_in (v4 + 3) (mx_scr M1).1 ∧ (vp_in (v4 + 4) (mx_scr M1).1 ∧ (vp_in (v4 + 5) (mx_scr M1).1 ∧ (mx_W m_X11_feed d 0 [.ref 58, .int ((mx_scr M1).2 (v4 + 1).toNatClampNeg), .int ((mx_scr M1).2 (v4 + 2).toNatClampNeg), .int ((mx_scr M1).2 (v4 + 3).toNatClampNeg), .int ((mx_scr M1).2 (v4 + 4).toNatClampNeg), .int ((mx_scr M1).2 (v4 + 5).toNatClampNeg)] [] M1 (fun o M3 => mx_Tp M3 ∧ (∃ x4 : Int32, o = .inl (some (.int x4)) ∧ ((x2 = x4 → mx_W m_L_law (d + 1) 2312 [.retAddr 1, .ref 1, .ref 58, .ref 98, .int v4, .retAddr 0, .retAddr 0] [] M3 Q) ∧ (¬ x2 = x4 → Q (.inl (some (.int (mx_b false)))) M3))))))))))))))))))) :
    mx_W m_L_law (d + 1) 212 [.retAddr 1, .ref 1, .ref 58, .ref 98, .int v4, .retAddr 0, .retAddr 0] [] M Q := by
  refine mx_aload_n 1 (mx_da t_L_law_212 0 rfl) rfl rfl rfl rfl ?_
  refine mx_aload_n 0 (mx_da t_L_law_212 1 rfl) rfl rfl rfl rfl ?_
  refine mx_iload 4 (mx_da t_L_law_212 2 rfl) rfl rfl ?_
  refine mx_iconst (v := 1) (mx_da t_L_law_212 3 rfl) rfl rfl ?_
  refine mx_iadd (mx_da t_L_law_212 4 rfl) rfl ?_
  refine mx_sld h.1 (mx_da t_L_law_212 5 rfl) rfl ?_
  have h := h.2
  refine mx_aload_n 0 (mx_da t_L_law_212 6 rfl) rfl rfl rfl rfl ?_
  refine mx_iload 4 (mx_da t_L_law_212 7 rfl) rfl rfl ?_
  refine mx_iconst (v := 2) (mx_da t_L_law_212 8 rfl) rfl rfl ?_
  refine mx_iadd (mx_da t_L_law_212 9 rfl) rfl ?_
  refine mx_sld h.1 (mx_da t_L_law_212 10 rfl) rfl ?_
  have h := h.2
  refine mx_aload_n 0 (mx_da t_L_law_212 11 rfl) rfl rfl rfl rfl ?_
  refine mx_iload 4 (mx_da t_L_law_212 12 rfl) rfl rfl ?_
  refine mx_iconst (v := 3) (mx_da t_L_law_212 13 rfl) rfl rfl ?_
  refine mx_iadd (mx_da t_L_law_212 14 rfl) rfl ?_
  refine mx_sld h.1 (mx_da t_L_law_212 15 rfl) rfl ?_
  have h := h.2
  refine mx_aload_n 0 (mx_da t_L_law_212 16 rfl) rfl rfl rfl rfl ?_
  refine mx_iload 4 (mx_da t_L_law_212 17 rfl) rfl rfl ?_
  refine mx_iconst (v := 4) (mx_da t_L_law_212 18 rfl) rfl rfl ?_
  refine mx_iadd (mx_da t_L_law_212 19 rfl) rfl ?_
  refine mx_sld h.1 (mx_da t_L_law_212 20 rfl) rfl ?_
  have h := h.2
  refine mx_aload_n 0 (mx_da t_L_law_212 21 rfl) rfl rfl rfl rfl ?_
  refine mx_iload 4 (mx_da t_L_law_212 22 rfl) rfl rfl ?_
  refine mx_iconst (v := 5) (mx_da t_L_law_212 23 rfl) rfl rfl ?_
  refine mx_iadd (mx_da t_L_law_212 24 rfl) rfl ?_
  refine mx_sld h.1 (mx_da t_L_law_212 25 rfl) rfl ?_
  have h := h.2
  refine mx_callV yX10_feed m_X10_feed [.int ((mx_scr M).2 (v4 + 1).toNatClampNeg), .int ((mx_scr M).2 (v4 + 2).toNatClampNeg), .int ((mx_scr M).2 (v4 + 3).toNatClampNeg), .int ((mx_scr M).2 (v4 + 4).toNatClampNeg), .int ((mx_scr M).2 (v4 + 5).toNatClampNeg)] mm_X10_feed ml_RL_106 im_X10_feed se_X10_feed (tp_s T 1 rfl) rfl rfl (Nat.le_of_ble_eq_true rfl) (mx_da t_L_law_212 26 rfl) rfl (Nat.le_of_ble_eq_true rfl) rfl ?_
  refine mx_mono h ?_
  intro o M1 ho
  obtain ⟨T1, x2, rfl, h⟩ := ho
  refine ⟨T1.1.trans T.1.symm, ?_⟩
  have T := T1
  clear T1
  show mx_W m_L_law (d + 1) 246 [.retAddr 1, .ref 1, .ref 58, .ref 98, .int v4, .retAddr 0, .retAddr 0] [.int x2] M1 Q
  refine mx_aload_n 2 (mx_da t_L_law_212 27 rfl) rfl rfl rfl rfl ?_
  refine mx_aload_n 0 (mx_da t_L_law_212 28 rfl) rfl rfl rfl rfl ?_
  refine mx_iload 4 (mx_da t_L_law_212 29 rfl) rfl rfl ?_
  refine mx_iconst (v := 1) (mx_da t_L_law_212 30 rfl) rfl rfl ?_
  refine mx_iadd (mx_da t_L_law_212 31 rfl) rfl ?_
  refine mx_sld h.1 (mx_da t_L_law_212 32 rfl) rfl ?_
  have h := h.2
  refine mx_aload_n 0 (mx_da t_L_law_212 33 rfl) rfl rfl rfl rfl ?_
  refine mx_iload 4 (mx_da t_L_law_212 34 rfl) rfl rfl ?_
  refine mx_iconst (v := 2) (mx_da t_L_law_212 35 rfl) rfl rfl ?_
  refine mx_iadd (mx_da t_L_law_212 36 rfl) rfl ?_
  refine mx_sld h.1 (mx_da t_L_law_212 37 rfl) rfl ?_
  have h := h.2
  refine mx_aload_n 0 (mx_da t_L_law_212 38 rfl) rfl rfl rfl rfl ?_
  refine mx_iload 4 (mx_da t_L_law_212 39 rfl) rfl rfl ?_
  refine mx_iconst (v := 3) (mx_da t_L_law_212 40 rfl) rfl rfl ?_
  refine mx_iadd (mx_da t_L_law_212 41 rfl) rfl ?_
  refine mx_sld h.1 (mx_da t_L_law_212 42 rfl) rfl ?_
  have h := h.2
  refine mx_aload_n 0 (mx_da t_L_law_212 43 rfl) rfl rfl rfl rfl ?_
  refine mx_iload 4 (mx_da t_L_law_212 44 rfl) rfl rfl ?_
  refine mx_iconst (v := 4) (mx_da t_L_law_212 45 rfl) rfl rfl ?_
  refine mx_iadd (mx_da t_L_law_212 46 rfl) rfl ?_
  refine mx_sld h.1 (mx_da t_L_law_212 47 rfl) rfl ?_
  have h := h.2
  refine mx_aload_n 0 (mx_da t_L_law_212 48 rfl) rfl rfl rfl rfl ?_
  refine mx_iload 4 (mx_da t_L_law_212 49 rfl) rfl rfl ?_
  refine mx_iconst (v := 5) (mx_da t_L_law_212 50 rfl) rfl rfl ?_
  refine mx_iadd (mx_da t_L_law_212 51 rfl) rfl ?_
  refine mx_sld h.1 (mx_da t_L_law_212 52 rfl) rfl ?_
  have h := h.2
  refine mx_callV yX11_feed m_X11_feed [.int ((mx_scr M1).2 (v4 + 1).toNatClampNeg), .int ((mx_scr M1).2 (v4 + 2).toNatClampNeg), .int ((mx_scr M1).2 (v4 + 3).toNatClampNeg), .int ((mx_scr M1).2 (v4 + 4).toNatClampNeg), .int ((mx_scr M1).2 (v4 + 5).toNatClampNeg)] mm_X11_feed ml_RL_110 im_X11_feed se_X11_feed (tp_s T 58 rfl) rfl rfl (Nat.le_of_ble_eq_true rfl) (mx_da t_L_law_212 53 rfl) rfl (Nat.le_of_ble_eq_true rfl) rfl ?_
  refine mx_mono h ?_
  intro o M3 ho
  obtain ⟨T1, x4, rfl, h⟩ := ho
  refine ⟨T1.1.trans T.1.symm, ?_⟩
  have T := T1
  clear T1
  show mx_W m_L_law (d + 1) 280 [.retAddr 1, .ref 1, .ref 58, .ref 98, .int v4, .retAddr 0, .retAddr 0] [.int x4, .int x2] M3 Q
  refine mx_icmp_eq 2312 (mx_da t_L_law_212 54 rfl) rfl rfl (fun g9 => ?_) (fun g9 => ?_)
  · have h := h.1 g9
    exact h
  · have h := h.2 g9
    refine mx_iconst (v := 0) (mx_da t_L_law_212 55 rfl) rfl rfl ?_
    exact mx_zret rfl rfl (mx_da t_L_law_212 56 rfl) h
set_option maxHeartbeats 4000000 in
theorem x_L_law_285 {d : Nat} {M : mx_M} {Q : mx_O → mx_M → Prop} (T : mx_Tp M) (v4 : Int32)
    (h : (vp_in (v4 + 1) (mx_scr M).1 ∧ (mx_W m_L_catalogue d 0 [.ref 1, .int ((mx_scr M).2 (v4 + 1).toNatClampNeg), .ref 98, .retAddr 0] [] M (fun o M1 => mx_Tp M1 ∧ (∃ x2 : Int32, o = .inl (some (.int x2)) ∧ (vp_in (v4 + 1) (mx_scr M1).1 ∧ (mx_W m_X11_catalogue d 0 [.ref 58, .int ((mx_scr M1).2 (v4 + 1).toNatClampNeg), .retAddr 0] [] M1 (fun o M3 => mx_Tp M3 ∧ (∃ x4 : Int32, o = .inl (some (.int x4)) ∧ (mx_W m_X11_thrown d 0 [.ref 58] [] M3 (fun o M5 => mx_Tp M5 ∧ (∃ x6 : Int32, o = .inl (some (.int x6)) ∧ ((x6 = x2 → ((¬ x2 = 0 → mx_W m_L_law (d + 1) 2312 [.retAddr 1, .ref 1, .ref 58, .ref 98, .int v4, .retAddr 0, .retAddr 0] [] M5 Q) ∧ (x2 = 0 → ((mx_J M5 98 0 = x4.toInt64 → mx_W m_L_law (d + 1) 2312 [.retAddr 1, .ref 1, .ref 58, .ref 98, .int v4, .retAddr 0, .retAddr 0] [] M5 Q) ∧ (¬ mx_J M5 98 0 = x4.toInt64 → Q (.inl (some (.int (mx_b false)))) M5))))) ∧ (¬ x6 = x2 → Q (.inl (some (.int (mx_b false)))) M5)))))))))))))) :
    mx_W m_L_law (d + 1) 285 [.retAddr 1, .ref 1, .ref 58, .ref 98, .int v4, .retAddr 0, .retAddr 0] [] M Q := by
  refine mx_aload_n 1 (mx_da t_L_law_285 0 rfl) rfl rfl rfl rfl ?_
  refine mx_aload_n 0 (mx_da t_L_law_285 1 rfl) rfl rfl rfl rfl ?_
  refine mx_iload 4 (mx_da t_L_law_285 2 rfl) rfl rfl ?_
  refine mx_iconst (v := 1) (mx_da t_L_law_285 3 rfl) rfl rfl ?_
  refine mx_iadd (mx_da t_L_law_285 4 rfl) rfl ?_
  refine mx_sld h.1 (mx_da t_L_law_285 5 rfl) rfl ?_
  have h := h.2
  refine mx_aload_n 3 (mx_da t_L_law_285 6 rfl) rfl rfl rfl rfl ?_
  refine mx_callSX yL_catalogue m_L_catalogue [.ref 1, .int ((mx_scr M).2 (v4 + 1).toNatClampNeg), .ref 98] mm_L_catalogue ml_RL_111 st_L_catalogue rfl (Nat.le_of_ble_eq_true rfl) (mx_da t_L_law_285 7 rfl) rfl (Nat.le_of_ble_eq_true rfl) rfl ?_
  refine mx_mono h ?_
  intro o M1 ho
  obtain ⟨T1, x2, rfl, h⟩ := ho
  refine ⟨T1.1.trans T.1.symm, ?_⟩
  have T := T1
  clear T1
  show mx_W m_L_law (d + 1) 296 [.retAddr 1, .ref 1, .ref 58, .ref 98, .int v4, .retAddr 0, .retAddr 0] [.int x2] M1 Q
  refine mx_istore 5 [.retAddr 1, .ref 1, .ref 58, .ref 98, .int v4, .int x2, .retAddr 0] (mx_da t_L_law_285 8 rfl) rfl (by decide) rfl ?_
  refine mx_aload_n 2 (mx_da t_L_law_285 9 rfl) rfl rfl rfl rfl ?_
  refine mx_aload_n 0 (mx_da t_L_law_285 10 rfl) rfl rfl rfl rfl ?_
  refine mx_iload 4 (mx_da t_L_law_285 11 rfl) rfl rfl ?_
  refine mx_iconst (v := 1) (mx_da t_L_law_285 12 rfl) rfl rfl ?_
  refine mx_iadd (mx_da t_L_law_285 13 rfl) rfl ?_
  refine mx_sld h.1 (mx_da t_L_law_285 14 rfl) rfl ?_
  have h := h.2
  refine mx_callV yX11_catalogue m_X11_catalogue [.int ((mx_scr M1).2 (v4 + 1).toNatClampNeg)] mm_X11_catalogue ml_RL_116 im_X11_catalogue se_X11_catalogue (tp_s T 58 rfl) rfl rfl (Nat.le_of_ble_eq_true rfl) (mx_da t_L_law_285 15 rfl) rfl (Nat.le_of_ble_eq_true rfl) rfl ?_
  refine mx_mono h ?_
  intro o M3 ho
  obtain ⟨T1, x4, rfl, h⟩ := ho
  refine ⟨T1.1.trans T.1.symm, ?_⟩
  have T := T1
  clear T1
  show mx_W m_L_law (d + 1) 308 [.retAddr 1, .ref 1, .ref 58, .ref 98, .int v4, .int x2, .retAddr 0] [.int x4] M3 Q
  refine mx_istore 6 [.retAddr 1, .ref 1, .ref 58, .ref 98, .int v4, .int x2, .int x4] (mx_da t_L_law_285 16 rfl) rfl (by decide) rfl ?_
  refine mx_aload_n 2 (mx_da t_L_law_285 17 rfl) rfl rfl rfl rfl ?_
  refine mx_callV yX11_thrown m_X11_thrown [] mm_X11_thrown ml_RL_117 im_X11_thrown se_X11_thrown (tp_s T 58 rfl) rfl rfl (Nat.le_of_ble_eq_true rfl) (mx_da t_L_law_285 18 rfl) rfl (Nat.le_of_ble_eq_true rfl) rfl ?_
  refine mx_mono h ?_
  intro o M5 ho
  obtain ⟨T1, x6, rfl, h⟩ := ho
  refine ⟨T1.1.trans T.1.symm, ?_⟩
  have T := T1
  clear T1
  show mx_W m_L_law (d + 1) 314 [.retAddr 1, .ref 1, .ref 58, .ref 98, .int v4, .int x2, .int x4] [.int x6] M5 Q
  refine mx_iload 5 (mx_da t_L_law_285 19 rfl) rfl rfl ?_
  refine mx_icmp_eq 321 (mx_da t_L_law_285 20 rfl) rfl rfl (fun g9 => ?_) (fun g9 => ?_)
  · have h := h.1 g9
    refine mx_iload 5 (mx_da t_L_law_285 23 rfl) rfl rfl ?_
    refine mx_if_ne 338 (mx_da t_L_law_285 24 rfl) rfl rfl (fun g9 => ?_) (fun g9 => ?_)
    · have h := h.1 g9
      refine mx_goto (n := 2312) (mx_da t_L_law_285 34 rfl) rfl ?_
      exact mx_wkn [.retAddr 1, .ref 1, .ref 58, .ref 98, .int v4, .retAddr 0, .retAddr 0] ⟨Or.inr rfl, Or.inr rfl, Or.inr rfl, Or.inr rfl, Or.inr rfl, Or.inl rfl, Or.inl rfl, trivial⟩ h
    · have h := h.2 g9
      refine mx_aload_n 3 (mx_da t_L_law_285 25 rfl) rfl rfl rfl rfl ?_
      refine mx_iconst (v := 0) (mx_da t_L_law_285 26 rfl) rfl rfl ?_
      refine mx_lald (tp_s T 98 rfl) (mx_vin rfl) (mx_da t_L_law_285 27 rfl) rfl ?_
      refine mx_iload 6 (mx_da t_L_law_285 28 rfl) rfl rfl ?_
      refine mx_i2l (mx_da t_L_law_285 29 rfl) rfl ?_
      refine mx_lcmp (mx_da t_L_law_285 30 rfl) rfl ?_
      refine mx_if_eq 338 (mx_da t_L_law_285 31 rfl) rfl rfl (fun g9 => ?_) (fun g9 => ?_)
      · have h := h.1 (mx_lc0.mp g9)
        refine mx_goto (n := 2312) (mx_da t_L_law_285 34 rfl) rfl ?_
        exact mx_wkn [.retAddr 1, .ref 1, .ref 58, .ref 98, .int v4, .retAddr 0, .retAddr 0] ⟨Or.inr rfl, Or.inr rfl, Or.inr rfl, Or.inr rfl, Or.inr rfl, Or.inl rfl, Or.inl rfl, trivial⟩ h
      · have h := h.2 (mx_lcn.mp g9)
        refine mx_iconst (v := 0) (mx_da t_L_law_285 32 rfl) rfl rfl ?_
        exact mx_zret rfl rfl (mx_da t_L_law_285 33 rfl) h
  · have h := h.2 g9
    refine mx_iconst (v := 0) (mx_da t_L_law_285 21 rfl) rfl rfl ?_
    exact mx_zret rfl rfl (mx_da t_L_law_285 22 rfl) h
set_option maxHeartbeats 4000000 in
theorem x_L_law_341 {d : Nat} {M : mx_M} {Q : mx_O → mx_M → Prop} (T : mx_Tp M) (v4 : Int32)
    (h : (mx_W m_X10_fault d 0 [.ref 1] [] M (fun o M1 => mx_Tp M1 ∧ (∃ x2 : Int32, o = .inl (some (.int x2)) ∧ (mx_W m_X11_fault d 0 [.ref 58] [] M1 (fun o M3 => mx_Tp M3 ∧ (∃ x4 : Int32, o = .inl (some (.int x4)) ∧ ((x2 = x4 → mx_W m_L_law (d + 1) 2312 [.retAddr 1, .ref 1, .ref 58, .ref 98, .int v4, .retAddr 0, .retAddr 0] [] M3 Q) ∧ (¬ x2 = x4 → Q (.inl (some (.int (mx_b false)))) M3))))))))) :
    mx_W m_L_law (d + 1) 341 [.retAddr 1, .ref 1, .ref 58, .ref 98, .int v4, .retAddr 0, .retAddr 0] [] M Q := by
  refine mx_aload_n 1 (mx_da t_L_law_341 0 rfl) rfl rfl rfl rfl ?_
  refine mx_callV yX10_fault m_X10_fault [] mm_X10_fault ml_RL_121 im_X10_fault se_X10_fault (tp_s T 1 rfl) rfl rfl (Nat.le_of_ble_eq_true rfl) (mx_da t_L_law_341 1 rfl) rfl (Nat.le_of_ble_eq_true rfl) rfl ?_
  refine mx_mono h ?_
  intro o M1 ho
  obtain ⟨T1, x2, rfl, h⟩ := ho
  refine ⟨T1.1.trans T.1.symm, ?_⟩
  have T := T1
  clear T1
  show mx_W m_L_law (d + 1) 345 [.retAddr 1, .ref 1, .ref 58, .ref 98, .int v4, .retAddr 0, .retAddr 0] [.int x2] M1 Q
  refine mx_aload_n 2 (mx_da t_L_law_341 2 rfl) rfl rfl rfl rfl ?_
  refine mx_callV yX11_fault m_X11_fault [] mm_X11_fault ml_RL_124 im_X11_fault se_X11_fault (tp_s T 58 rfl) rfl rfl (Nat.le_of_ble_eq_true rfl) (mx_da t_L_law_341 3 rfl) rfl (Nat.le_of_ble_eq_true rfl) rfl ?_
  refine mx_mono h ?_
  intro o M3 ho
  obtain ⟨T1, x4, rfl, h⟩ := ho
  refine ⟨T1.1.trans T.1.symm, ?_⟩
  have T := T1
  clear T1
  show mx_W m_L_law (d + 1) 349 [.retAddr 1, .ref 1, .ref 58, .ref 98, .int v4, .retAddr 0, .retAddr 0] [.int x4, .int x2] M3 Q
  refine mx_icmp_eq 2312 (mx_da t_L_law_341 4 rfl) rfl rfl (fun g9 => ?_) (fun g9 => ?_)
  · have h := h.1 g9
    exact h
  · have h := h.2 g9
    refine mx_iconst (v := 0) (mx_da t_L_law_341 5 rfl) rfl rfl ?_
    exact mx_zret rfl rfl (mx_da t_L_law_341 6 rfl) h
set_option maxHeartbeats 4000000 in
theorem x_L_law_354 {d : Nat} {M : mx_M} {Q : mx_O → mx_M → Prop} (T : mx_Tp M) (v4 : Int32)
    (h : (vp_in (v4 + 1) (mx_scr M).1 ∧ (mx_W m_L_count d 0 [.ref 1, .int ((mx_scr M).2 (v4 + 1).toNatClampNeg), .ref 98, .retAddr 0] [] M (fun o M1 => mx_Tp M1 ∧ (∃ x2 : Int32, o = .inl (some (.int x2)) ∧ (vp_in (v4 + 1) (mx_scr M1).1 ∧ (mx_W m_X11_count d 0 [.ref 58, .int ((mx_scr M1).2 (v4 + 1).toNatClampNeg)] [] M1 (fun o M3 => mx_Tp M3 ∧ (∃ x4 : Int32, o = .inl (some (.int x4)) ∧ (mx_W m_X11_thrown d 0 [.ref 58] [] M3 (fun o M5 => mx_Tp M5 ∧ (∃ x6 : Int32, o = .inl (some (.int x6)) ∧ ((x6 = x2 → ((¬ x2 = 0 → mx_W m_L_law (d + 1) 2312 [.retAddr 1, .ref 1, .ref 58, .ref 98, .int v4, .retAddr 0, .retAddr 0] [] M5 Q) ∧ (x2 = 0 → ((mx_J M5 98 0 = x4.toInt64 → mx_W m_L_law (d + 1) 2312 [.retAddr 1, .ref 1, .ref 58, .ref 98, .int v4, .retAddr 0, .retAddr 0] [] M5 Q) ∧ (¬ mx_J M5 98 0 = x4.toInt64 → Q (.inl (some (.int (mx_b false)))) M5))))) ∧ (¬ x6 = x2 → Q (.inl (some (.int (mx_b false)))) M5)))))))))))))) :
    mx_W m_L_law (d + 1) 354 [.retAddr 1, .ref 1, .ref 58, .ref 98, .int v4, .retAddr 0, .retAddr 0] [] M Q := by
  refine mx_aload_n 1 (mx_da t_L_law_354 0 rfl) rfl rfl rfl rfl ?_
  refine mx_aload_n 0 (mx_da t_L_law_354 1 rfl) rfl rfl rfl rfl ?_
  refine mx_iload 4 (mx_da t_L_law_354 2 rfl) rfl rfl ?_
  refine mx_iconst (v := 1) (mx_da t_L_law_354 3 rfl) rfl rfl ?_
  refine mx_iadd (mx_da t_L_law_354 4 rfl) rfl ?_
  refine mx_sld h.1 (mx_da t_L_law_354 5 rfl) rfl ?_
  have h := h.2
  refine mx_aload_n 3 (mx_da t_L_law_354 6 rfl) rfl rfl rfl rfl ?_
  refine mx_callSX yL_count m_L_count [.ref 1, .int ((mx_scr M).2 (v4 + 1).toNatClampNeg), .ref 98] mm_L_count ml_RL_125 st_L_count rfl (Nat.le_of_ble_eq_true rfl) (mx_da t_L_law_354 7 rfl) rfl (Nat.le_of_ble_eq_true rfl) rfl ?_
  refine mx_mono h ?_
  intro o M1 ho
  obtain ⟨T1, x2, rfl, h⟩ := ho
  refine ⟨T1.1.trans T.1.symm, ?_⟩
  have T := T1
  clear T1
  show mx_W m_L_law (d + 1) 365 [.retAddr 1, .ref 1, .ref 58, .ref 98, .int v4, .retAddr 0, .retAddr 0] [.int x2] M1 Q
  refine mx_istore 5 [.retAddr 1, .ref 1, .ref 58, .ref 98, .int v4, .int x2, .retAddr 0] (mx_da t_L_law_354 8 rfl) rfl (by decide) rfl ?_
  refine mx_aload_n 2 (mx_da t_L_law_354 9 rfl) rfl rfl rfl rfl ?_
  refine mx_aload_n 0 (mx_da t_L_law_354 10 rfl) rfl rfl rfl rfl ?_
  refine mx_iload 4 (mx_da t_L_law_354 11 rfl) rfl rfl ?_
  refine mx_iconst (v := 1) (mx_da t_L_law_354 12 rfl) rfl rfl ?_
  refine mx_iadd (mx_da t_L_law_354 13 rfl) rfl ?_
  refine mx_sld h.1 (mx_da t_L_law_354 14 rfl) rfl ?_
  have h := h.2
  refine mx_callV yX11_count m_X11_count [.int ((mx_scr M1).2 (v4 + 1).toNatClampNeg)] mm_X11_count ml_RL_127 im_X11_count se_X11_count (tp_s T 58 rfl) rfl rfl (Nat.le_of_ble_eq_true rfl) (mx_da t_L_law_354 15 rfl) rfl (Nat.le_of_ble_eq_true rfl) rfl ?_
  refine mx_mono h ?_
  intro o M3 ho
  obtain ⟨T1, x4, rfl, h⟩ := ho
  refine ⟨T1.1.trans T.1.symm, ?_⟩
  have T := T1
  clear T1
  show mx_W m_L_law (d + 1) 377 [.retAddr 1, .ref 1, .ref 58, .ref 98, .int v4, .int x2, .retAddr 0] [.int x4] M3 Q
  refine mx_istore 6 [.retAddr 1, .ref 1, .ref 58, .ref 98, .int v4, .int x2, .int x4] (mx_da t_L_law_354 16 rfl) rfl (by decide) rfl ?_
  refine mx_aload_n 2 (mx_da t_L_law_354 17 rfl) rfl rfl rfl rfl ?_
  refine mx_callV yX11_thrown m_X11_thrown [] mm_X11_thrown ml_RL_117 im_X11_thrown se_X11_thrown (tp_s T 58 rfl) rfl rfl (Nat.le_of_ble_eq_true rfl) (mx_da t_L_law_354 18 rfl) rfl (Nat.le_of_ble_eq_true rfl) rfl ?_
  refine mx_mono h ?_
  intro o M5 ho
  obtain ⟨T1, x6, rfl, h⟩ := ho
  refine ⟨T1.1.trans T.1.symm, ?_⟩
  have T := T1
  clear T1
  show mx_W m_L_law (d + 1) 383 [.retAddr 1, .ref 1, .ref 58, .ref 98, .int v4, .int x2, .int x4] [.int x6] M5 Q
  refine mx_iload 5 (mx_da t_L_law_354 19 rfl) rfl rfl ?_
  refine mx_icmp_eq 390 (mx_da t_L_law_354 20 rfl) rfl rfl (fun g9 => ?_) (fun g9 => ?_)
  · have h := h.1 g9
    refine mx_iload 5 (mx_da t_L_law_354 23 rfl) rfl rfl ?_
    refine mx_if_ne 407 (mx_da t_L_law_354 24 rfl) rfl rfl (fun g9 => ?_) (fun g9 => ?_)
    · have h := h.1 g9
      refine mx_goto (n := 2312) (mx_da t_L_law_354 34 rfl) rfl ?_
      exact mx_wkn [.retAddr 1, .ref 1, .ref 58, .ref 98, .int v4, .retAddr 0, .retAddr 0] ⟨Or.inr rfl, Or.inr rfl, Or.inr rfl, Or.inr rfl, Or.inr rfl, Or.inl rfl, Or.inl rfl, trivial⟩ h
    · have h := h.2 g9
      refine mx_aload_n 3 (mx_da t_L_law_354 25 rfl) rfl rfl rfl rfl ?_
      refine mx_iconst (v := 0) (mx_da t_L_law_354 26 rfl) rfl rfl ?_
      refine mx_lald (tp_s T 98 rfl) (mx_vin rfl) (mx_da t_L_law_354 27 rfl) rfl ?_
      refine mx_iload 6 (mx_da t_L_law_354 28 rfl) rfl rfl ?_
      refine mx_i2l (mx_da t_L_law_354 29 rfl) rfl ?_
      refine mx_lcmp (mx_da t_L_law_354 30 rfl) rfl ?_
      refine mx_if_eq 407 (mx_da t_L_law_354 31 rfl) rfl rfl (fun g9 => ?_) (fun g9 => ?_)
      · have h := h.1 (mx_lc0.mp g9)
        refine mx_goto (n := 2312) (mx_da t_L_law_354 34 rfl) rfl ?_
        exact mx_wkn [.retAddr 1, .ref 1, .ref 58, .ref 98, .int v4, .retAddr 0, .retAddr 0] ⟨Or.inr rfl, Or.inr rfl, Or.inr rfl, Or.inr rfl, Or.inr rfl, Or.inl rfl, Or.inl rfl, trivial⟩ h
      · have h := h.2 (mx_lcn.mp g9)
        refine mx_iconst (v := 0) (mx_da t_L_law_354 32 rfl) rfl rfl ?_
        exact mx_zret rfl rfl (mx_da t_L_law_354 33 rfl) h
  · have h := h.2 g9
    refine mx_iconst (v := 0) (mx_da t_L_law_354 21 rfl) rfl rfl ?_
    exact mx_zret rfl rfl (mx_da t_L_law_354 22 rfl) h
set_option maxHeartbeats 4000000 in
theorem x_L_law_410 {d : Nat} {M : mx_M} {Q : mx_O → mx_M → Prop} (T : mx_Tp M) (v4 : Int32)
    (h : (vp_in (v4 + 1) (mx_scr M).1 ∧ (vp_in (v4 + 2) (mx_scr M).1 ∧ (mx_W m_L_card d 0 [.ref 1, .int ((mx_scr M).2 (v4 + 1).toNatClampNeg), .int ((mx_scr M).2 (v4 + 2).toNatClampNeg), .ref 98, .retAddr 0] [] M (fun o M1 => mx_Tp M1 ∧ (∃ x2 : Int32, o = .inl (some (.int x2)) ∧ (vp_in (v4 + 1) (mx_scr M1).1 ∧ (vp_in (v4 + 2) (mx_scr M1).1 ∧ (mx_W m_X11_card d 0 [.ref 58, .int ((mx_scr M1).2 (v4 + 1).toNatClampNeg), .int ((mx_scr M1).2 (v4 + 2).toNatClampNeg)] [] M1 (fun o M3 => mx_Tp M3 ∧ (∃ x4 : Int32, o = .inl (some (.int x4)) ∧ (mx_W m_X11_thrown d 0 [.ref 58] [] M3 (fun o M5 => mx_Tp M5 ∧ (∃ x6 : Int32, o = .inl (some (.int x6)) ∧ ((x6 = x2 → ((¬ x2 = 0 → mx_W m_L_law (d + 1) 2312 [.retAddr 1, .ref 1, .ref 58, .ref 98, .int v4, .retAddr 0, .retAddr 0] [] M5 Q) ∧ (x2 = 0 → ((mx_J M5 98 0 = x4.toInt64 → mx_W m_L_law (d + 1) 2312 [.retAddr 1, .ref 1, .ref 58, .ref 98, .int v4, .retAddr 0, .retAddr 0] [] M5 Q) ∧ (¬ mx_J M5 98 0 = x4.toInt64 → Q (.inl (some (.int (mx_b false)))) M5))))) ∧ (¬ x6 = x2 → Q (.inl (some (.int (mx_b false)))) M5)))))))))))))))) :
    mx_W m_L_law (d + 1) 410 [.retAddr 1, .ref 1, .ref 58, .ref 98, .int v4, .retAddr 0, .retAddr 0] [] M Q := by
  refine mx_aload_n 1 (mx_da t_L_law_410 0 rfl) rfl rfl rfl rfl ?_
  refine mx_aload_n 0 (mx_da t_L_law_410 1 rfl) rfl rfl rfl rfl ?_
  refine mx_iload 4 (mx_da t_L_law_410 2 rfl) rfl rfl ?_
  refine mx_iconst (v := 1) (mx_da t_L_law_410 3 rfl) rfl rfl ?_
  refine mx_iadd (mx_da t_L_law_410 4 rfl) rfl ?_
  refine mx_sld h.1 (mx_da t_L_law_410 5 rfl) rfl ?_
  have h := h.2
  refine mx_aload_n 0 (mx_da t_L_law_410 6 rfl) rfl rfl rfl rfl ?_
  refine mx_iload 4 (mx_da t_L_law_410 7 rfl) rfl rfl ?_
  refine mx_iconst (v := 2) (mx_da t_L_law_410 8 rfl) rfl rfl ?_
  refine mx_iadd (mx_da t_L_law_410 9 rfl) rfl ?_
  refine mx_sld h.1 (mx_da t_L_law_410 10 rfl) rfl ?_
  have h := h.2
  refine mx_aload_n 3 (mx_da t_L_law_410 11 rfl) rfl rfl rfl rfl ?_
  refine mx_callSX yL_card m_L_card [.ref 1, .int ((mx_scr M).2 (v4 + 1).toNatClampNeg), .int ((mx_scr M).2 (v4 + 2).toNatClampNeg), .ref 98] mm_L_card ml_RL_128 st_L_card rfl (Nat.le_of_ble_eq_true rfl) (mx_da t_L_law_410 12 rfl) rfl (Nat.le_of_ble_eq_true rfl) rfl ?_
  refine mx_mono h ?_
  intro o M1 ho
  obtain ⟨T1, x2, rfl, h⟩ := ho
  refine ⟨T1.1.trans T.1.symm, ?_⟩
  have T := T1
  clear T1
  show mx_W m_L_law (d + 1) 427 [.retAddr 1, .ref 1, .ref 58, .ref 98, .int v4, .retAddr 0, .retAddr 0] [.int x2] M1 Q
  refine mx_istore 5 [.retAddr 1, .ref 1, .ref 58, .ref 98, .int v4, .int x2, .retAddr 0] (mx_da t_L_law_410 13 rfl) rfl (by decide) rfl ?_
  refine mx_aload_n 2 (mx_da t_L_law_410 14 rfl) rfl rfl rfl rfl ?_
  refine mx_aload_n 0 (mx_da t_L_law_410 15 rfl) rfl rfl rfl rfl ?_
  refine mx_iload 4 (mx_da t_L_law_410 16 rfl) rfl rfl ?_
  refine mx_iconst (v := 1) (mx_da t_L_law_410 17 rfl) rfl rfl ?_
  refine mx_iadd (mx_da t_L_law_410 18 rfl) rfl ?_
  refine mx_sld h.1 (mx_da t_L_law_410 19 rfl) rfl ?_
  have h := h.2
  refine mx_aload_n 0 (mx_da t_L_law_410 20 rfl) rfl rfl rfl rfl ?_
  refine mx_iload 4 (mx_da t_L_law_410 21 rfl) rfl rfl ?_
  refine mx_iconst (v := 2) (mx_da t_L_law_410 22 rfl) rfl rfl ?_
  refine mx_iadd (mx_da t_L_law_410 23 rfl) rfl ?_
  refine mx_sld h.1 (mx_da t_L_law_410 24 rfl) rfl ?_
  have h := h.2
  refine mx_callV yX11_card m_X11_card [.int ((mx_scr M1).2 (v4 + 1).toNatClampNeg), .int ((mx_scr M1).2 (v4 + 2).toNatClampNeg)] mm_X11_card ml_RL_131 im_X11_card se_X11_card (tp_s T 58 rfl) rfl rfl (Nat.le_of_ble_eq_true rfl) (mx_da t_L_law_410 25 rfl) rfl (Nat.le_of_ble_eq_true rfl) rfl ?_
  refine mx_mono h ?_
  intro o M3 ho
  obtain ⟨T1, x4, rfl, h⟩ := ho
  refine ⟨T1.1.trans T.1.symm, ?_⟩
  have T := T1
  clear T1
  show mx_W m_L_law (d + 1) 445 [.retAddr 1, .ref 1, .ref 58, .ref 98, .int v4, .int x2, .retAddr 0] [.int x4] M3 Q
  refine mx_istore 6 [.retAddr 1, .ref 1, .ref 58, .ref 98, .int v4, .int x2, .int x4] (mx_da t_L_law_410 26 rfl) rfl (by decide) rfl ?_
  refine mx_aload_n 2 (mx_da t_L_law_410 27 rfl) rfl rfl rfl rfl ?_
  refine mx_callV yX11_thrown m_X11_thrown [] mm_X11_thrown ml_RL_117 im_X11_thrown se_X11_thrown (tp_s T 58 rfl) rfl rfl (Nat.le_of_ble_eq_true rfl) (mx_da t_L_law_410 28 rfl) rfl (Nat.le_of_ble_eq_true rfl) rfl ?_
  refine mx_mono h ?_
  intro o M5 ho
  obtain ⟨T1, x6, rfl, h⟩ := ho
  refine ⟨T1.1.trans T.1.symm, ?_⟩
  have T := T1
  clear T1
  show mx_W m_L_law (d + 1) 451 [.retAddr 1, .ref 1, .ref 58, .ref 98, .int v4, .int x2, .int x4] [.int x6] M5 Q
  refine mx_iload 5 (mx_da t_L_law_410 29 rfl) rfl rfl ?_
  refine mx_icmp_eq 458 (mx_da t_L_law_410 30 rfl) rfl rfl (fun g9 => ?_) (fun g9 => ?_)
  · have h := h.1 g9
    refine mx_iload 5 (mx_da t_L_law_410 33 rfl) rfl rfl ?_
    refine mx_if_ne 475 (mx_da t_L_law_410 34 rfl) rfl rfl (fun g9 => ?_) (fun g9 => ?_)
    · have h := h.1 g9
      refine mx_goto (n := 2312) (mx_da t_L_law_410 44 rfl) rfl ?_
      exact mx_wkn [.retAddr 1, .ref 1, .ref 58, .ref 98, .int v4, .retAddr 0, .retAddr 0] ⟨Or.inr rfl, Or.inr rfl, Or.inr rfl, Or.inr rfl, Or.inr rfl, Or.inl rfl, Or.inl rfl, trivial⟩ h
    · have h := h.2 g9
      refine mx_aload_n 3 (mx_da t_L_law_410 35 rfl) rfl rfl rfl rfl ?_
      refine mx_iconst (v := 0) (mx_da t_L_law_410 36 rfl) rfl rfl ?_
      refine mx_lald (tp_s T 98 rfl) (mx_vin rfl) (mx_da t_L_law_410 37 rfl) rfl ?_
      refine mx_iload 6 (mx_da t_L_law_410 38 rfl) rfl rfl ?_
      refine mx_i2l (mx_da t_L_law_410 39 rfl) rfl ?_
      refine mx_lcmp (mx_da t_L_law_410 40 rfl) rfl ?_
      refine mx_if_eq 475 (mx_da t_L_law_410 41 rfl) rfl rfl (fun g9 => ?_) (fun g9 => ?_)
      · have h := h.1 (mx_lc0.mp g9)
        refine mx_goto (n := 2312) (mx_da t_L_law_410 44 rfl) rfl ?_
        exact mx_wkn [.retAddr 1, .ref 1, .ref 58, .ref 98, .int v4, .retAddr 0, .retAddr 0] ⟨Or.inr rfl, Or.inr rfl, Or.inr rfl, Or.inr rfl, Or.inr rfl, Or.inl rfl, Or.inl rfl, trivial⟩ h
      · have h := h.2 (mx_lcn.mp g9)
        refine mx_iconst (v := 0) (mx_da t_L_law_410 42 rfl) rfl rfl ?_
        exact mx_zret rfl rfl (mx_da t_L_law_410 43 rfl) h
  · have h := h.2 g9
    refine mx_iconst (v := 0) (mx_da t_L_law_410 31 rfl) rfl rfl ?_
    exact mx_zret rfl rfl (mx_da t_L_law_410 32 rfl) h
set_option maxHeartbeats 4000000 in
theorem x_L_law_478 {d : Nat} {M : mx_M} {Q : mx_O → mx_M → Prop} (T : mx_Tp M) (v4 : Int32)
    (h : (vp_in (v4 + 1) (mx_scr M).1 ∧ (vp_in (v4 + 2) (mx_scr M).1 ∧ (mx_W m_L_clerk d 0 [.ref 1, .int ((mx_scr M).2 (v4 + 1).toNatClampNeg), .int ((mx_scr M).2 (v4 + 2).toNatClampNeg), .ref 98, .retAddr 0] [] M (fun o M1 => mx_Tp M1 ∧ (∃ x2 : Int32, o = .inl (some (.int x2)) ∧ (vp_in (v4 + 1) (mx_scr M1).1 ∧ (vp_in (v4 + 2) (mx_scr M1).1 ∧ (mx_W m_X11_clerk d 0 [.ref 58, .int ((mx_scr M1).2 (v4 + 1).toNatClampNeg), .int ((mx_scr M1).2 (v4 + 2).toNatClampNeg)] [] M1 (fun o M3 => mx_Tp M3 ∧ (∃ x4 : Int32, o = .inl (some (.int x4)) ∧ (mx_W m_X11_thrown d 0 [.ref 58] [] M3 (fun o M5 => mx_Tp M5 ∧ (∃ x6 : Int32, o = .inl (some (.int x6)) ∧ ((x6 = x2 → ((¬ x2 = 0 → mx_W m_L_law (d + 1) 2312 [.retAddr 1, .ref 1, .ref 58, .ref 98, .int v4, .retAddr 0, .retAddr 0] [] M5 Q) ∧ (x2 = 0 → ((mx_J M5 98 0 = x4.toInt64 → mx_W m_L_law (d + 1) 2312 [.retAddr 1, .ref 1, .ref 58, .ref 98, .int v4, .retAddr 0, .retAddr 0] [] M5 Q) ∧ (¬ mx_J M5 98 0 = x4.toInt64 → Q (.inl (some (.int (mx_b false)))) M5))))) ∧ (¬ x6 = x2 → Q (.inl (some (.int (mx_b false)))) M5)))))))))))))))) :
    mx_W m_L_law (d + 1) 478 [.retAddr 1, .ref 1, .ref 58, .ref 98, .int v4, .retAddr 0, .retAddr 0] [] M Q := by
  refine mx_aload_n 1 (mx_da t_L_law_478 0 rfl) rfl rfl rfl rfl ?_
  refine mx_aload_n 0 (mx_da t_L_law_478 1 rfl) rfl rfl rfl rfl ?_
  refine mx_iload 4 (mx_da t_L_law_478 2 rfl) rfl rfl ?_
  refine mx_iconst (v := 1) (mx_da t_L_law_478 3 rfl) rfl rfl ?_
  refine mx_iadd (mx_da t_L_law_478 4 rfl) rfl ?_
  refine mx_sld h.1 (mx_da t_L_law_478 5 rfl) rfl ?_
  have h := h.2
  refine mx_aload_n 0 (mx_da t_L_law_478 6 rfl) rfl rfl rfl rfl ?_
  refine mx_iload 4 (mx_da t_L_law_478 7 rfl) rfl rfl ?_
  refine mx_iconst (v := 2) (mx_da t_L_law_478 8 rfl) rfl rfl ?_
  refine mx_iadd (mx_da t_L_law_478 9 rfl) rfl ?_
  refine mx_sld h.1 (mx_da t_L_law_478 10 rfl) rfl ?_
  have h := h.2
  refine mx_aload_n 3 (mx_da t_L_law_478 11 rfl) rfl rfl rfl rfl ?_
  refine mx_callSX yL_clerk m_L_clerk [.ref 1, .int ((mx_scr M).2 (v4 + 1).toNatClampNeg), .int ((mx_scr M).2 (v4 + 2).toNatClampNeg), .ref 98] mm_L_clerk ml_RL_132 st_L_clerk rfl (Nat.le_of_ble_eq_true rfl) (mx_da t_L_law_478 12 rfl) rfl (Nat.le_of_ble_eq_true rfl) rfl ?_
  refine mx_mono h ?_
  intro o M1 ho
  obtain ⟨T1, x2, rfl, h⟩ := ho
  refine ⟨T1.1.trans T.1.symm, ?_⟩
  have T := T1
  clear T1
  show mx_W m_L_law (d + 1) 495 [.retAddr 1, .ref 1, .ref 58, .ref 98, .int v4, .retAddr 0, .retAddr 0] [.int x2] M1 Q
  refine mx_istore 5 [.retAddr 1, .ref 1, .ref 58, .ref 98, .int v4, .int x2, .retAddr 0] (mx_da t_L_law_478 13 rfl) rfl (by decide) rfl ?_
  refine mx_aload_n 2 (mx_da t_L_law_478 14 rfl) rfl rfl rfl rfl ?_
  refine mx_aload_n 0 (mx_da t_L_law_478 15 rfl) rfl rfl rfl rfl ?_
  refine mx_iload 4 (mx_da t_L_law_478 16 rfl) rfl rfl ?_
  refine mx_iconst (v := 1) (mx_da t_L_law_478 17 rfl) rfl rfl ?_
  refine mx_iadd (mx_da t_L_law_478 18 rfl) rfl ?_
  refine mx_sld h.1 (mx_da t_L_law_478 19 rfl) rfl ?_
  have h := h.2
  refine mx_aload_n 0 (mx_da t_L_law_478 20 rfl) rfl rfl rfl rfl ?_
  refine mx_iload 4 (mx_da t_L_law_478 21 rfl) rfl rfl ?_
  refine mx_iconst (v := 2) (mx_da t_L_law_478 22 rfl) rfl rfl ?_
  refine mx_iadd (mx_da t_L_law_478 23 rfl) rfl ?_
  refine mx_sld h.1 (mx_da t_L_law_478 24 rfl) rfl ?_
  have h := h.2
  refine mx_callV yX11_clerk m_X11_clerk [.int ((mx_scr M1).2 (v4 + 1).toNatClampNeg), .int ((mx_scr M1).2 (v4 + 2).toNatClampNeg)] mm_X11_clerk ml_RL_134 im_X11_clerk se_X11_clerk (tp_s T 58 rfl) rfl rfl (Nat.le_of_ble_eq_true rfl) (mx_da t_L_law_478 25 rfl) rfl (Nat.le_of_ble_eq_true rfl) rfl ?_
  refine mx_mono h ?_
  intro o M3 ho
  obtain ⟨T1, x4, rfl, h⟩ := ho
  refine ⟨T1.1.trans T.1.symm, ?_⟩
  have T := T1
  clear T1
  show mx_W m_L_law (d + 1) 513 [.retAddr 1, .ref 1, .ref 58, .ref 98, .int v4, .int x2, .retAddr 0] [.int x4] M3 Q
  refine mx_istore 6 [.retAddr 1, .ref 1, .ref 58, .ref 98, .int v4, .int x2, .int x4] (mx_da t_L_law_478 26 rfl) rfl (by decide) rfl ?_
  refine mx_aload_n 2 (mx_da t_L_law_478 27 rfl) rfl rfl rfl rfl ?_
  refine mx_callV yX11_thrown m_X11_thrown [] mm_X11_thrown ml_RL_117 im_X11_thrown se_X11_thrown (tp_s T 58 rfl) rfl rfl (Nat.le_of_ble_eq_true rfl) (mx_da t_L_law_478 28 rfl) rfl (Nat.le_of_ble_eq_true rfl) rfl ?_
  refine mx_mono h ?_
  intro o M5 ho
  obtain ⟨T1, x6, rfl, h⟩ := ho
  refine ⟨T1.1.trans T.1.symm, ?_⟩
  have T := T1
  clear T1
  show mx_W m_L_law (d + 1) 519 [.retAddr 1, .ref 1, .ref 58, .ref 98, .int v4, .int x2, .int x4] [.int x6] M5 Q
  refine mx_iload 5 (mx_da t_L_law_478 29 rfl) rfl rfl ?_
  refine mx_icmp_eq 526 (mx_da t_L_law_478 30 rfl) rfl rfl (fun g9 => ?_) (fun g9 => ?_)
  · have h := h.1 g9
    refine mx_iload 5 (mx_da t_L_law_478 33 rfl) rfl rfl ?_
    refine mx_if_ne 543 (mx_da t_L_law_478 34 rfl) rfl rfl (fun g9 => ?_) (fun g9 => ?_)
    · have h := h.1 g9
      refine mx_goto (n := 2312) (mx_da t_L_law_478 44 rfl) rfl ?_
      exact mx_wkn [.retAddr 1, .ref 1, .ref 58, .ref 98, .int v4, .retAddr 0, .retAddr 0] ⟨Or.inr rfl, Or.inr rfl, Or.inr rfl, Or.inr rfl, Or.inr rfl, Or.inl rfl, Or.inl rfl, trivial⟩ h
    · have h := h.2 g9
      refine mx_aload_n 3 (mx_da t_L_law_478 35 rfl) rfl rfl rfl rfl ?_
      refine mx_iconst (v := 0) (mx_da t_L_law_478 36 rfl) rfl rfl ?_
      refine mx_lald (tp_s T 98 rfl) (mx_vin rfl) (mx_da t_L_law_478 37 rfl) rfl ?_
      refine mx_iload 6 (mx_da t_L_law_478 38 rfl) rfl rfl ?_
      refine mx_i2l (mx_da t_L_law_478 39 rfl) rfl ?_
      refine mx_lcmp (mx_da t_L_law_478 40 rfl) rfl ?_
      refine mx_if_eq 543 (mx_da t_L_law_478 41 rfl) rfl rfl (fun g9 => ?_) (fun g9 => ?_)
      · have h := h.1 (mx_lc0.mp g9)
        refine mx_goto (n := 2312) (mx_da t_L_law_478 44 rfl) rfl ?_
        exact mx_wkn [.retAddr 1, .ref 1, .ref 58, .ref 98, .int v4, .retAddr 0, .retAddr 0] ⟨Or.inr rfl, Or.inr rfl, Or.inr rfl, Or.inr rfl, Or.inr rfl, Or.inl rfl, Or.inl rfl, trivial⟩ h
      · have h := h.2 (mx_lcn.mp g9)
        refine mx_iconst (v := 0) (mx_da t_L_law_478 42 rfl) rfl rfl ?_
        exact mx_zret rfl rfl (mx_da t_L_law_478 43 rfl) h
  · have h := h.2 g9
    refine mx_iconst (v := 0) (mx_da t_L_law_478 31 rfl) rfl rfl ?_
    exact mx_zret rfl rfl (mx_da t_L_law_478 32 rfl) h
set_option maxHeartbeats 4000000 in
theorem x_L_law_546 {d : Nat} {M : mx_M} {Q : mx_O → mx_M → Prop} (T : mx_Tp M) (v4 : Int32)
    (h : (vp_in (v4 + 1) (mx_scr M).1 ∧ (vp_in (v4 + 2) (mx_scr M).1 ∧ (vp_in (v4 + 3) (mx_scr M).1 ∧ (mx_W m_L_key d 0 [.ref 1, .int ((mx_scr M).2 (v4 + 1).toNatClampNeg), .int ((mx_scr M).2 (v4 + 2).toNatClampNeg), .int ((mx_scr M).2 (v4 + 3).toNatClampNeg), .ref 98, .retAddr 0] [] M (fun o M1 => mx_Tp M1 ∧ (∃ x2 : Int32, o = .inl (some (.int x2)) ∧ (vp_in (v4 + 1) (mx_scr M1).1 ∧ (vp_in (v4 + 2) (mx_scr M1).1 ∧ (vp_in (v4 + 3) (mx_scr M1).1 ∧ (mx_W m_X11_key d 0 [.ref 58, .int ((mx_scr M1).2 (v4 + 1).toNatClampNeg), .int ((mx_scr M1).2 (v4 + 2).toNatClampNeg), .int ((mx_scr M1).2 (v4 + 3).toNatClampNeg), .retAddr 0] [] M1 (fun o M3 => mx_Tp M3 ∧ (∃ x4 : Int32, o = .inl (some (.int x4)) ∧ (mx_W m_X11_thrown d 0 [.ref 58] [] M3 (fun o M5 => mx_Tp M5 ∧ (∃ x6 : Int32, o = .inl (some (.int x6)) ∧ ((x6 = x2 → ((¬ x2 = 0 → mx_W m_L_law (d + 1) 2312 [.retAddr 1, .ref 1, .ref 58, .ref 98, .int v4, .retAddr 0, .retAddr 0] [] M5 Q) ∧ (x2 = 0 → ((mx_J M5 98 0 = x4.toInt64 → mx_W m_L_law (d + 1) 2312 [.retAddr 1, .ref 1, .ref 58, .ref 98, .int v4, .retAddr 0, .retAddr 0] [] M5 Q) ∧ (¬ mx_J M5 98 0 = x4.toInt64 → Q (.inl (some (.int (mx_b false)))) M5))))) ∧ (¬ x6 = x2 → Q (.inl (some (.int (mx_b false)))) M5)))))))))))))))))) :
    mx_W m_L_law (d + 1) 546 [.retAddr 1, .ref 1, .ref 58, .ref 98, .int v4, .retAddr 0, .retAddr 0] [] M Q := by
  refine mx_aload_n 1 (mx_da t_L_law_546 0 rfl) rfl rfl rfl rfl ?_
  refine mx_aload_n 0 (mx_da t_L_law_546 1 rfl) rfl rfl rfl rfl ?_
  refine mx_iload 4 (mx_da t_L_law_546 2 rfl) rfl rfl ?_
  refine mx_iconst (v := 1) (mx_da t_L_law_546 3 rfl) rfl rfl ?_
  refine mx_iadd (mx_da t_L_law_546 4 rfl) rfl ?_
  refine mx_sld h.1 (mx_da t_L_law_546 5 rfl) rfl ?_
  have h := h.2
  refine mx_aload_n 0 (mx_da t_L_law_546 6 rfl) rfl rfl rfl rfl ?_
  refine mx_iload 4 (mx_da t_L_law_546 7 rfl) rfl rfl ?_
  refine mx_iconst (v := 2) (mx_da t_L_law_546 8 rfl) rfl rfl ?_
  refine mx_iadd (mx_da t_L_law_546 9 rfl) rfl ?_
  refine mx_sld h.1 (mx_da t_L_law_546 10 rfl) rfl ?_
  have h := h.2
  refine mx_aload_n 0 (mx_da t_L_law_546 11 rfl) rfl rfl rfl rfl ?_
  refine mx_iload 4 (mx_da t_L_law_546 12 rfl) rfl rfl ?_
  refine mx_iconst (v := 3) (mx_da t_L_law_546 13 rfl) rfl rfl ?_
  refine mx_iadd (mx_da t_L_law_546 14 rfl) rfl ?_
  refine mx_sld h.1 (mx_da t_L_law_546 15 rfl) rfl ?_
  have h := h.2
  refine mx_aload_n 3 (mx_da t_L_law_546 16 rfl) rfl rfl rfl rfl ?_
  refine mx_callSX yL_key m_L_key [.ref 1, .int ((mx_scr M).2 (v4 + 1).toNatClampNeg), .int ((mx_scr M).2 (v4 + 2).toNatClampNeg), .int ((mx_scr M).2 (v4 + 3).toNatClampNeg), .ref 98] mm_L_key ml_RL_135 st_L_key rfl (Nat.le_of_ble_eq_true rfl) (mx_da t_L_law_546 17 rfl) rfl (Nat.le_of_ble_eq_true rfl) rfl ?_
  refine mx_mono h ?_
  intro o M1 ho
  obtain ⟨T1, x2, rfl, h⟩ := ho
  refine ⟨T1.1.trans T.1.symm, ?_⟩
  have T := T1
  clear T1
  show mx_W m_L_law (d + 1) 569 [.retAddr 1, .ref 1, .ref 58, .ref 98, .int v4, .retAddr 0, .retAddr 0] [.int x2] M1 Q
  refine mx_istore 5 [.retAddr 1, .ref 1, .ref 58, .ref 98, .int v4, .int x2, .retAddr 0] (mx_da t_L_law_546 18 rfl) rfl (by decide) rfl ?_
  refine mx_aload_n 2 (mx_da t_L_law_546 19 rfl) rfl rfl rfl rfl ?_
  refine mx_aload_n 0 (mx_da t_L_law_546 20 rfl) rfl rfl rfl rfl ?_
  refine mx_iload 4 (mx_da t_L_law_546 21 rfl) rfl rfl ?_
  refine mx_iconst (v := 1) (mx_da t_L_law_546 22 rfl) rfl rfl ?_
  refine mx_iadd (mx_da t_L_law_546 23 rfl) rfl ?_
  refine mx_sld h.1 (mx_da t_L_law_546 24 rfl) rfl ?_
  have h := h.2
  refine mx_aload_n 0 (mx_da t_L_law_546 25 rfl) rfl rfl rfl rfl ?_
  refine mx_iload 4 (mx_da t_L_law_546 26 rfl) rfl rfl ?_
  refine mx_iconst (v := 2) (mx_da t_L_law_546 27 rfl) rfl rfl ?_
  refine mx_iadd (mx_da t_L_law_546 28 rfl) rfl ?_
  refine mx_sld h.1 (mx_da t_L_law_546 29 rfl) rfl ?_
  have h := h.2
  refine mx_aload_n 0 (mx_da t_L_law_546 30 rfl) rfl rfl rfl rfl ?_
  refine mx_iload 4 (mx_da t_L_law_546 31 rfl) rfl rfl ?_
  refine mx_iconst (v := 3) (mx_da t_L_law_546 32 rfl) rfl rfl ?_
  refine mx_iadd (mx_da t_L_law_546 33 rfl) rfl ?_
  refine mx_sld h.1 (mx_da t_L_law_546 34 rfl) rfl ?_
  have h := h.2
  refine mx_callV yX11_key m_X11_key [.int ((mx_scr M1).2 (v4 + 1).toNatClampNeg), .int ((mx_scr M1).2 (v4 + 2).toNatClampNeg), .int ((mx_scr M1).2 (v4 + 3).toNatClampNeg)] mm_X11_key ml_RL_138 im_X11_key se_X11_key (tp_s T 58 rfl) rfl rfl (Nat.le_of_ble_eq_true rfl) (mx_da t_L_law_546 35 rfl) rfl (Nat.le_of_ble_eq_true rfl) rfl ?_
  refine mx_mono h ?_
  intro o M3 ho
  obtain ⟨T1, x4, rfl, h⟩ := ho
  refine ⟨T1.1.trans T.1.symm, ?_⟩
  have T := T1
  clear T1
  show mx_W m_L_law (d + 1) 593 [.retAddr 1, .ref 1, .ref 58, .ref 98, .int v4, .int x2, .retAddr 0] [.int x4] M3 Q
  refine mx_istore 6 [.retAddr 1, .ref 1, .ref 58, .ref 98, .int v4, .int x2, .int x4] (mx_da t_L_law_546 36 rfl) rfl (by decide) rfl ?_
  refine mx_aload_n 2 (mx_da t_L_law_546 37 rfl) rfl rfl rfl rfl ?_
  refine mx_callV yX11_thrown m_X11_thrown [] mm_X11_thrown ml_RL_117 im_X11_thrown se_X11_thrown (tp_s T 58 rfl) rfl rfl (Nat.le_of_ble_eq_true rfl) (mx_da t_L_law_546 38 rfl) rfl (Nat.le_of_ble_eq_true rfl) rfl ?_
  refine mx_mono h ?_
  intro o M5 ho
  obtain ⟨T1, x6, rfl, h⟩ := ho
  refine ⟨T1.1.trans T.1.symm, ?_⟩
  have T := T1
  clear T1
  show mx_W m_L_law (d + 1) 599 [.retAddr 1, .ref 1, .ref 58, .ref 98, .int v4, .int x2, .int x4] [.int x6] M5 Q
  refine mx_iload 5 (mx_da t_L_law_546 39 rfl) rfl rfl ?_
  refine mx_icmp_eq 606 (mx_da t_L_law_546 40 rfl) rfl rfl (fun g9 => ?_) (fun g9 => ?_)
  · have h := h.1 g9
    refine mx_iload 5 (mx_da t_L_law_546 43 rfl) rfl rfl ?_
    refine mx_if_ne 623 (mx_da t_L_law_546 44 rfl) rfl rfl (fun g9 => ?_) (fun g9 => ?_)
    · have h := h.1 g9
      refine mx_goto (n := 2312) (mx_da t_L_law_546 54 rfl) rfl ?_
      exact mx_wkn [.retAddr 1, .ref 1, .ref 58, .ref 98, .int v4, .retAddr 0, .retAddr 0] ⟨Or.inr rfl, Or.inr rfl, Or.inr rfl, Or.inr rfl, Or.inr rfl, Or.inl rfl, Or.inl rfl, trivial⟩ h
    · have h := h.2 g9
      refine mx_aload_n 3 (mx_da t_L_law_546 45 rfl) rfl rfl rfl rfl ?_
      refine mx_iconst (v := 0) (mx_da t_L_law_546 46 rfl) rfl rfl ?_
      refine mx_lald (tp_s T 98 rfl) (mx_vin rfl) (mx_da t_L_law_546 47 rfl) rfl ?_
      refine mx_iload 6 (mx_da t_L_law_546 48 rfl) rfl rfl ?_
      refine mx_i2l (mx_da t_L_law_546 49 rfl) rfl ?_
      refine mx_lcmp (mx_da t_L_law_546 50 rfl) rfl ?_
      refine mx_if_eq 623 (mx_da t_L_law_546 51 rfl) rfl rfl (fun g9 => ?_) (fun g9 => ?_)
      · have h := h.1 (mx_lc0.mp g9)
        refine mx_goto (n := 2312) (mx_da t_L_law_546 54 rfl) rfl ?_
        exact mx_wkn [.retAddr 1, .ref 1, .ref 58, .ref 98, .int v4, .retAddr 0, .retAddr 0] ⟨Or.inr rfl, Or.inr rfl, Or.inr rfl, Or.inr rfl, Or.inr rfl, Or.inl rfl, Or.inl rfl, trivial⟩ h
      · have h := h.2 (mx_lcn.mp g9)
        refine mx_iconst (v := 0) (mx_da t_L_law_546 52 rfl) rfl rfl ?_
        exact mx_zret rfl rfl (mx_da t_L_law_546 53 rfl) h
  · have h := h.2 g9
    refine mx_iconst (v := 0) (mx_da t_L_law_546 41 rfl) rfl rfl ?_
    exact mx_zret rfl rfl (mx_da t_L_law_546 42 rfl) h
set_option maxHeartbeats 4000000 in
theorem x_L_law_626 {d : Nat} {M : mx_M} {Q : mx_O → mx_M → Prop} (T : mx_Tp M) (v4 : Int32)
    (h : (vp_in (v4 + 1) (mx_scr M).1 ∧ (vp_in (v4 + 2) (mx_scr M).1 ∧ (vp_in (v4 + 3) (mx_scr M).1 ∧ (mx_W m_L_before d 0 [.ref 1, .int ((mx_scr M).2 (v4 + 1).toNatClampNeg), .int ((mx_scr M).2 (v4 + 2).toNatClampNeg), .int ((mx_scr M).2 (v4 + 3).toNatClampNeg), .ref 98, .retAddr 0] [] M (fun o M1 => mx_Tp M1 ∧ (∃ x2 : Int32, o = .inl (some (.int x2)) ∧ (vp_in (v4 + 1) (mx_scr M1).1 ∧ (vp_in (v4 + 2) (mx_scr M1).1 ∧ (vp_in (v4 + 3) (mx_scr M1).1 ∧ (mx_W m_X11_before d 0 [.ref 58, .int ((mx_scr M1).2 (v4 + 1).toNatClampNeg), .int ((mx_scr M1).2 (v4 + 2).toNatClampNeg), .int ((mx_scr M1).2 (v4 + 3).toNatClampNeg)] [] M1 (fun o M3 => mx_Tp M3 ∧ (∃ x4 : Bool, o = .inl (some (.int (mx_b x4))) ∧ (mx_W m_X11_thrown d 0 [.ref 58] [] M3 (fun o M5 => mx_Tp M5 ∧ (∃ x6 : Int32, o = .inl (some (.int x6)) ∧ ((x6 = x2 → ((¬ x2 = 0 → mx_W m_L_law (d + 1) 2312 [.retAddr 1, .ref 1, .ref 58, .ref 98, .int v4, .retAddr 0, .retAddr 0] [] M5 Q) ∧ (x2 = 0 → ((x4 = false → ((mx_J M5 98 0 = 0 → mx_W m_L_law (d + 1) 2312 [.retAddr 1, .ref 1, .ref 58, .ref 98, .int v4, .retAddr 0, .retAddr 0] [] M5 Q) ∧ (¬ mx_J M5 98 0 = 0 → Q (.inl (some (.int (mx_b false)))) M5))) ∧ (x4 = true → ((mx_J M5 98 0 = 1 → mx_W m_L_law (d + 1) 2312 [.retAddr 1, .ref 1, .ref 58, .ref 98, .int v4, .retAddr 0, .retAddr 0] [] M5 Q) ∧ (¬ mx_J M5 98 0 = 1 → Q (.inl (some (.int (mx_b false)))) M5))))))) ∧ (¬ x6 = x2 → Q (.inl (some (.int (mx_b false)))) M5)))))))))))))))))) :
    mx_W m_L_law (d + 1) 626 [.retAddr 1, .ref 1, .ref 58, .ref 98, .int v4, .retAddr 0, .retAddr 0] [] M Q := by
  refine mx_aload_n 1 (mx_da t_L_law_626 0 rfl) rfl rfl rfl rfl ?_
  refine mx_aload_n 0 (mx_da t_L_law_626 1 rfl) rfl rfl rfl rfl ?_
  refine mx_iload 4 (mx_da t_L_law_626 2 rfl) rfl rfl ?_
  refine mx_iconst (v := 1) (mx_da t_L_law_626 3 rfl) rfl rfl ?_
  refine mx_iadd (mx_da t_L_law_626 4 rfl) rfl ?_
  refine mx_sld h.1 (mx_da t_L_law_626 5 rfl) rfl ?_
  have h := h.2
  refine mx_aload_n 0 (mx_da t_L_law_626 6 rfl) rfl rfl rfl rfl ?_
  refine mx_iload 4 (mx_da t_L_law_626 7 rfl) rfl rfl ?_
  refine mx_iconst (v := 2) (mx_da t_L_law_626 8 rfl) rfl rfl ?_
  refine mx_iadd (mx_da t_L_law_626 9 rfl) rfl ?_
  refine mx_sld h.1 (mx_da t_L_law_626 10 rfl) rfl ?_
  have h := h.2
  refine mx_aload_n 0 (mx_da t_L_law_626 11 rfl) rfl rfl rfl rfl ?_
  refine mx_iload 4 (mx_da t_L_law_626 12 rfl) rfl rfl ?_
  refine mx_iconst (v := 3) (mx_da t_L_law_626 13 rfl) rfl rfl ?_
  refine mx_iadd (mx_da t_L_law_626 14 rfl) rfl ?_
  refine mx_sld h.1 (mx_da t_L_law_626 15 rfl) rfl ?_
  have h := h.2
  refine mx_aload_n 3 (mx_da t_L_law_626 16 rfl) rfl rfl rfl rfl ?_
  refine mx_callSX yL_before m_L_before [.ref 1, .int ((mx_scr M).2 (v4 + 1).toNatClampNeg), .int ((mx_scr M).2 (v4 + 2).toNatClampNeg), .int ((mx_scr M).2 (v4 + 3).toNatClampNeg), .ref 98] mm_L_before ml_RL_139 st_L_before rfl (Nat.le_of_ble_eq_true rfl) (mx_da t_L_law_626 17 rfl) rfl (Nat.le_of_ble_eq_true rfl) rfl ?_
  refine mx_mono h ?_
  intro o M1 ho
  obtain ⟨T1, x2, rfl, h⟩ := ho
  refine ⟨T1.1.trans T.1.symm, ?_⟩
  have T := T1
  clear T1
  show mx_W m_L_law (d + 1) 649 [.retAddr 1, .ref 1, .ref 58, .ref 98, .int v4, .retAddr 0, .retAddr 0] [.int x2] M1 Q
  refine mx_istore 5 [.retAddr 1, .ref 1, .ref 58, .ref 98, .int v4, .int x2, .retAddr 0] (mx_da t_L_law_626 18 rfl) rfl (by decide) rfl ?_
  refine mx_aload_n 2 (mx_da t_L_law_626 19 rfl) rfl rfl rfl rfl ?_
  refine mx_aload_n 0 (mx_da t_L_law_626 20 rfl) rfl rfl rfl rfl ?_
  refine mx_iload 4 (mx_da t_L_law_626 21 rfl) rfl rfl ?_
  refine mx_iconst (v := 1) (mx_da t_L_law_626 22 rfl) rfl rfl ?_
  refine mx_iadd (mx_da t_L_law_626 23 rfl) rfl ?_
  refine mx_sld h.1 (mx_da t_L_law_626 24 rfl) rfl ?_
  have h := h.2
  refine mx_aload_n 0 (mx_da t_L_law_626 25 rfl) rfl rfl rfl rfl ?_
  refine mx_iload 4 (mx_da t_L_law_626 26 rfl) rfl rfl ?_
  refine mx_iconst (v := 2) (mx_da t_L_law_626 27 rfl) rfl rfl ?_
  refine mx_iadd (mx_da t_L_law_626 28 rfl) rfl ?_
  refine mx_sld h.1 (mx_da t_L_law_626 29 rfl) rfl ?_
  have h := h.2
  refine mx_aload_n 0 (mx_da t_L_law_626 30 rfl) rfl rfl rfl rfl ?_
  refine mx_iload 4 (mx_da t_L_law_626 31 rfl) rfl rfl ?_
  refine mx_iconst (v := 3) (mx_da t_L_law_626 32 rfl) rfl rfl ?_
  refine mx_iadd (mx_da t_L_law_626 33 rfl) rfl ?_
  refine mx_sld h.1 (mx_da t_L_law_626 34 rfl) rfl ?_
  have h := h.2
  refine mx_callV yX11_before m_X11_before [.int ((mx_scr M1).2 (v4 + 1).toNatClampNeg), .int ((mx_scr M1).2 (v4 + 2).toNatClampNeg), .int ((mx_scr M1).2 (v4 + 3).toNatClampNeg)] mm_X11_before ml_RL_141 im_X11_before se_X11_before (tp_s T 58 rfl) rfl rfl (Nat.le_of_ble_eq_true rfl) (mx_da t_L_law_626 35 rfl) rfl (Nat.le_of_ble_eq_true rfl) rfl ?_
  refine mx_mono h ?_
  intro o M3 ho
  obtain ⟨T1, x4, rfl, h⟩ := ho
  refine ⟨T1.1.trans T.1.symm, ?_⟩
  have T := T1
  clear T1
  show mx_W m_L_law (d + 1) 673 [.retAddr 1, .ref 1, .ref 58, .ref 98, .int v4, .int x2, .retAddr 0] [.int (mx_b x4)] M3 Q
  refine mx_istore 6 [.retAddr 1, .ref 1, .ref 58, .ref 98, .int v4, .int x2, .int (mx_b x4)] (mx_da t_L_law_626 36 rfl) rfl (by decide) rfl ?_
  refine mx_aload_n 2 (mx_da t_L_law_626 37 rfl) rfl rfl rfl rfl ?_
  refine mx_callV yX11_thrown m_X11_thrown [] mm_X11_thrown ml_RL_117 im_X11_thrown se_X11_thrown (tp_s T 58 rfl) rfl rfl (Nat.le_of_ble_eq_true rfl) (mx_da t_L_law_626 38 rfl) rfl (Nat.le_of_ble_eq_true rfl) rfl ?_
  refine mx_mono h ?_
  intro o M5 ho
  obtain ⟨T1, x6, rfl, h⟩ := ho
  refine ⟨T1.1.trans T.1.symm, ?_⟩
  have T := T1
  clear T1
  show mx_W m_L_law (d + 1) 679 [.retAddr 1, .ref 1, .ref 58, .ref 98, .int v4, .int x2, .int (mx_b x4)] [.int x6] M5 Q
  refine mx_iload 5 (mx_da t_L_law_626 39 rfl) rfl rfl ?_
  refine mx_icmp_eq 686 (mx_da t_L_law_626 40 rfl) rfl rfl (fun g9 => ?_) (fun g9 => ?_)
  · have h := h.1 g9
    refine mx_iload 5 (mx_da t_L_law_626 43 rfl) rfl rfl ?_
    refine mx_if_ne 710 (mx_da t_L_law_626 44 rfl) rfl rfl (fun g9 => ?_) (fun g9 => ?_)
    · have h := h.1 g9
      refine mx_goto (n := 2312) (mx_da t_L_law_626 57 rfl) rfl ?_
      exact mx_wkn [.retAddr 1, .ref 1, .ref 58, .ref 98, .int v4, .retAddr 0, .retAddr 0] ⟨Or.inr rfl, Or.inr rfl, Or.inr rfl, Or.inr rfl, Or.inr rfl, Or.inl rfl, Or.inl rfl, trivial⟩ h
    · have h := h.2 g9
      refine mx_aload_n 3 (mx_da t_L_law_626 45 rfl) rfl rfl rfl rfl ?_
      refine mx_iconst (v := 0) (mx_da t_L_law_626 46 rfl) rfl rfl ?_
      refine mx_lald (tp_s T 98 rfl) (mx_vin rfl) (mx_da t_L_law_626 47 rfl) rfl ?_
      refine mx_iload 6 (mx_da t_L_law_626 48 rfl) rfl rfl ?_
      refine mx_if_eq 703 (mx_da t_L_law_626 49 rfl) rfl rfl (fun g9 => ?_) (fun g9 => ?_)
      · have h := h.1 (mx_b0.mp g9)
        refine mx_lconst (v := 0) (mx_da t_L_law_626 52 rfl) rfl rfl ?_
        refine mx_lcmp (mx_da t_L_law_626 53 rfl) rfl ?_
        refine mx_if_eq 710 (mx_da t_L_law_626 54 rfl) rfl rfl (fun g9 => ?_) (fun g9 => ?_)
        · have h := h.1 (mx_lc0.mp g9)
          refine mx_goto (n := 2312) (mx_da t_L_law_626 57 rfl) rfl ?_
          exact mx_wkn [.retAddr 1, .ref 1, .ref 58, .ref 98, .int v4, .retAddr 0, .retAddr 0] ⟨Or.inr rfl, Or.inr rfl, Or.inr rfl, Or.inr rfl, Or.inr rfl, Or.inl rfl, Or.inl rfl, trivial⟩ h
        · have h := h.2 (mx_lcn.mp g9)
          refine mx_iconst (v := 0) (mx_da t_L_law_626 55 rfl) rfl rfl ?_
          exact mx_zret rfl rfl (mx_da t_L_law_626 56 rfl) h
      · have h := h.2 (mx_bn.mp g9)
        refine mx_lconst (v := 1) (mx_da t_L_law_626 50 rfl) rfl rfl ?_
        refine mx_goto (n := 704) (mx_da t_L_law_626 51 rfl) rfl ?_
        refine mx_lcmp (mx_da t_L_law_626 53 rfl) rfl ?_
        refine mx_if_eq 710 (mx_da t_L_law_626 54 rfl) rfl rfl (fun g9 => ?_) (fun g9 => ?_)
        · have h := h.1 (mx_lc0.mp g9)
          refine mx_goto (n := 2312) (mx_da t_L_law_626 57 rfl) rfl ?_
          exact mx_wkn [.retAddr 1, .ref 1, .ref 58, .ref 98, .int v4, .retAddr 0, .retAddr 0] ⟨Or.inr rfl, Or.inr rfl, Or.inr rfl, Or.inr rfl, Or.inr rfl, Or.inl rfl, Or.inl rfl, trivial⟩ h
        · have h := h.2 (mx_lcn.mp g9)
          refine mx_iconst (v := 0) (mx_da t_L_law_626 55 rfl) rfl rfl ?_
          exact mx_zret rfl rfl (mx_da t_L_law_626 56 rfl) h
  · have h := h.2 g9
    refine mx_iconst (v := 0) (mx_da t_L_law_626 41 rfl) rfl rfl ?_
    exact mx_zret rfl rfl (mx_da t_L_law_626 42 rfl) h
set_option maxHeartbeats 4000000 in
theorem x_L_law_713 {d : Nat} {M : mx_M} {Q : mx_O → mx_M → Prop} (T : mx_Tp M) (v4 : Int32)
    (h : (vp_in (v4 + 1) (mx_scr M).1 ∧ (vp_in (v4 + 2) (mx_scr M).1 ∧ (mx_W m_L_rank d 0 [.ref 1, .int ((mx_scr M).2 (v4 + 1).toNatClampNeg), .int ((mx_scr M).2 (v4 + 2).toNatClampNeg), .ref 98, .retAddr 0] [] M (fun o M1 => mx_Tp M1 ∧ (∃ x2 : Int32, o = .inl (some (.int x2)) ∧ (vp_in (v4 + 1) (mx_scr M1).1 ∧ (vp_in (v4 + 2) (mx_scr M1).1 ∧ (mx_W m_X11_rank d 0 [.ref 58, .int ((mx_scr M1).2 (v4 + 1).toNatClampNeg), .int ((mx_scr M1).2 (v4 + 2).toNatClampNeg)] [] M1 (fun o M3 => mx_Tp M3 ∧ (∃ x4 : Int32, o = .inl (some (.int x4)) ∧ (mx_W m_X11_thrown d 0 [.ref 58] [] M3 (fun o M5 => mx_Tp M5 ∧ (∃ x6 : Int32, o = .inl (some (.int x6)) ∧ ((x6 = x2 → ((¬ x2 = 0 → mx_W m_L_law (d + 1) 2312 [.retAddr 1, .ref 1, .ref 58, .ref 98, .int v4, .retAddr 0, .retAddr 0] [] M5 Q) ∧ (x2 = 0 → ((mx_J M5 98 0 = x4.toInt64 → mx_W m_L_law (d + 1) 2312 [.retAddr 1, .ref 1, .ref 58, .ref 98, .int v4, .retAddr 0, .retAddr 0] [] M5 Q) ∧ (¬ mx_J M5 98 0 = x4.toInt64 → Q (.inl (some (.int (mx_b false)))) M5))))) ∧ (¬ x6 = x2 → Q (.inl (some (.int (mx_b false)))) M5)))))))))))))))) :
    mx_W m_L_law (d + 1) 713 [.retAddr 1, .ref 1, .ref 58, .ref 98, .int v4, .retAddr 0, .retAddr 0] [] M Q := by
  refine mx_aload_n 1 (mx_da t_L_law_713 0 rfl) rfl rfl rfl rfl ?_
  refine mx_aload_n 0 (mx_da t_L_law_713 1 rfl) rfl rfl rfl rfl ?_
  refine mx_iload 4 (mx_da t_L_law_713 2 rfl) rfl rfl ?_
  refine mx_iconst (v := 1) (mx_da t_L_law_713 3 rfl) rfl rfl ?_
  refine mx_iadd (mx_da t_L_law_713 4 rfl) rfl ?_
  refine mx_sld h.1 (mx_da t_L_law_713 5 rfl) rfl ?_
  have h := h.2
  refine mx_aload_n 0 (mx_da t_L_law_713 6 rfl) rfl rfl rfl rfl ?_
  refine mx_iload 4 (mx_da t_L_law_713 7 rfl) rfl rfl ?_
  refine mx_iconst (v := 2) (mx_da t_L_law_713 8 rfl) rfl rfl ?_
  refine mx_iadd (mx_da t_L_law_713 9 rfl) rfl ?_
  refine mx_sld h.1 (mx_da t_L_law_713 10 rfl) rfl ?_
  have h := h.2
  refine mx_aload_n 3 (mx_da t_L_law_713 11 rfl) rfl rfl rfl rfl ?_
  refine mx_callSX yL_rank m_L_rank [.ref 1, .int ((mx_scr M).2 (v4 + 1).toNatClampNeg), .int ((mx_scr M).2 (v4 + 2).toNatClampNeg), .ref 98] mm_L_rank ml_RL_142 st_L_rank rfl (Nat.le_of_ble_eq_true rfl) (mx_da t_L_law_713 12 rfl) rfl (Nat.le_of_ble_eq_true rfl) rfl ?_
  refine mx_mono h ?_
  intro o M1 ho
  obtain ⟨T1, x2, rfl, h⟩ := ho
  refine ⟨T1.1.trans T.1.symm, ?_⟩
  have T := T1
  clear T1
  show mx_W m_L_law (d + 1) 730 [.retAddr 1, .ref 1, .ref 58, .ref 98, .int v4, .retAddr 0, .retAddr 0] [.int x2] M1 Q
  refine mx_istore 5 [.retAddr 1, .ref 1, .ref 58, .ref 98, .int v4, .int x2, .retAddr 0] (mx_da t_L_law_713 13 rfl) rfl (by decide) rfl ?_
  refine mx_aload_n 2 (mx_da t_L_law_713 14 rfl) rfl rfl rfl rfl ?_
  refine mx_aload_n 0 (mx_da t_L_law_713 15 rfl) rfl rfl rfl rfl ?_
  refine mx_iload 4 (mx_da t_L_law_713 16 rfl) rfl rfl ?_
  refine mx_iconst (v := 1) (mx_da t_L_law_713 17 rfl) rfl rfl ?_
  refine mx_iadd (mx_da t_L_law_713 18 rfl) rfl ?_
  refine mx_sld h.1 (mx_da t_L_law_713 19 rfl) rfl ?_
  have h := h.2
  refine mx_aload_n 0 (mx_da t_L_law_713 20 rfl) rfl rfl rfl rfl ?_
  refine mx_iload 4 (mx_da t_L_law_713 21 rfl) rfl rfl ?_
  refine mx_iconst (v := 2) (mx_da t_L_law_713 22 rfl) rfl rfl ?_
  refine mx_iadd (mx_da t_L_law_713 23 rfl) rfl ?_
  refine mx_sld h.1 (mx_da t_L_law_713 24 rfl) rfl ?_
  have h := h.2
  refine mx_callV yX11_rank m_X11_rank [.int ((mx_scr M1).2 (v4 + 1).toNatClampNeg), .int ((mx_scr M1).2 (v4 + 2).toNatClampNeg)] mm_X11_rank ml_RL_144 im_X11_rank se_X11_rank (tp_s T 58 rfl) rfl rfl (Nat.le_of_ble_eq_true rfl) (mx_da t_L_law_713 25 rfl) rfl (Nat.le_of_ble_eq_true rfl) rfl ?_
  refine mx_mono h ?_
  intro o M3 ho
  obtain ⟨T1, x4, rfl, h⟩ := ho
  refine ⟨T1.1.trans T.1.symm, ?_⟩
  have T := T1
  clear T1
  show mx_W m_L_law (d + 1) 748 [.retAddr 1, .ref 1, .ref 58, .ref 98, .int v4, .int x2, .retAddr 0] [.int x4] M3 Q
  refine mx_istore 6 [.retAddr 1, .ref 1, .ref 58, .ref 98, .int v4, .int x2, .int x4] (mx_da t_L_law_713 26 rfl) rfl (by decide) rfl ?_
  refine mx_aload_n 2 (mx_da t_L_law_713 27 rfl) rfl rfl rfl rfl ?_
  refine mx_callV yX11_thrown m_X11_thrown [] mm_X11_thrown ml_RL_117 im_X11_thrown se_X11_thrown (tp_s T 58 rfl) rfl rfl (Nat.le_of_ble_eq_true rfl) (mx_da t_L_law_713 28 rfl) rfl (Nat.le_of_ble_eq_true rfl) rfl ?_
  refine mx_mono h ?_
  intro o M5 ho
  obtain ⟨T1, x6, rfl, h⟩ := ho
  refine ⟨T1.1.trans T.1.symm, ?_⟩
  have T := T1
  clear T1
  show mx_W m_L_law (d + 1) 754 [.retAddr 1, .ref 1, .ref 58, .ref 98, .int v4, .int x2, .int x4] [.int x6] M5 Q
  refine mx_iload 5 (mx_da t_L_law_713 29 rfl) rfl rfl ?_
  refine mx_icmp_eq 761 (mx_da t_L_law_713 30 rfl) rfl rfl (fun g9 => ?_) (fun g9 => ?_)
  · have h := h.1 g9
    refine mx_iload 5 (mx_da t_L_law_713 33 rfl) rfl rfl ?_
    refine mx_if_ne 778 (mx_da t_L_law_713 34 rfl) rfl rfl (fun g9 => ?_) (fun g9 => ?_)
    · have h := h.1 g9
      refine mx_goto (n := 2312) (mx_da t_L_law_713 44 rfl) rfl ?_
      exact mx_wkn [.retAddr 1, .ref 1, .ref 58, .ref 98, .int v4, .retAddr 0, .retAddr 0] ⟨Or.inr rfl, Or.inr rfl, Or.inr rfl, Or.inr rfl, Or.inr rfl, Or.inl rfl, Or.inl rfl, trivial⟩ h
    · have h := h.2 g9
      refine mx_aload_n 3 (mx_da t_L_law_713 35 rfl) rfl rfl rfl rfl ?_
      refine mx_iconst (v := 0) (mx_da t_L_law_713 36 rfl) rfl rfl ?_
      refine mx_lald (tp_s T 98 rfl) (mx_vin rfl) (mx_da t_L_law_713 37 rfl) rfl ?_
      refine mx_iload 6 (mx_da t_L_law_713 38 rfl) rfl rfl ?_
      refine mx_i2l (mx_da t_L_law_713 39 rfl) rfl ?_
      refine mx_lcmp (mx_da t_L_law_713 40 rfl) rfl ?_
      refine mx_if_eq 778 (mx_da t_L_law_713 41 rfl) rfl rfl (fun g9 => ?_) (fun g9 => ?_)
      · have h := h.1 (mx_lc0.mp g9)
        refine mx_goto (n := 2312) (mx_da t_L_law_713 44 rfl) rfl ?_
        exact mx_wkn [.retAddr 1, .ref 1, .ref 58, .ref 98, .int v4, .retAddr 0, .retAddr 0] ⟨Or.inr rfl, Or.inr rfl, Or.inr rfl, Or.inr rfl, Or.inr rfl, Or.inl rfl, Or.inl rfl, trivial⟩ h
      · have h := h.2 (mx_lcn.mp g9)
        refine mx_iconst (v := 0) (mx_da t_L_law_713 42 rfl) rfl rfl ?_
        exact mx_zret rfl rfl (mx_da t_L_law_713 43 rfl) h
  · have h := h.2 g9
    refine mx_iconst (v := 0) (mx_da t_L_law_713 31 rfl) rfl rfl ?_
    exact mx_zret rfl rfl (mx_da t_L_law_713 32 rfl) h
set_option maxHeartbeats 4000000 in
theorem x_L_law_781 {d : Nat} {M : mx_M} {Q : mx_O → mx_M → Prop} (T : mx_Tp M) (v4 : Int32)
    (h : (vp_in (v4 + 1) (mx_scr M).1 ∧ (vp_in (v4 + 2) (mx_scr M).1 ∧ (mx_W m_L_at d 0 [.ref 1, .int ((mx_scr M).2 (v4 + 1).toNatClampNeg), .int ((mx_scr M).2 (v4 + 2).toNatClampNeg), .ref 98, .retAddr 0] [] M (fun o M1 => mx_Tp M1 ∧ (∃ x2 : Int32, o = .inl (some (.int x2)) ∧ (vp_in (v4 + 1) (mx_scr M1).1 ∧ (vp_in (v4 + 2) (mx_scr M1).1 ∧ (mx_W m_X11_at d 0 [.ref 58, .int ((mx_scr M1).2 (v4 + 1).toNatClampNeg), .int ((mx_scr M1).2 (v4 + 2).toNatClampNeg)] [] M1 (fun o M3 => mx_Tp M3 ∧ (∃ x4 : Int32, o = .inl (some (.int x4)) ∧ (mx_W m_X11_thrown d 0 [.ref 58] [] M3 (fun o M5 => mx_Tp M5 ∧ (∃ x6 : Int32, o = .inl (some (.int x6)) ∧ ((x6 = x2 → ((¬ x2 = 0 → mx_W m_L_law (d + 1) 2312 [.retAddr 1, .ref 1, .ref 58, .ref 98, .int v4, .retAddr 0, .retAddr 0] [] M5 Q) ∧ (x2 = 0 → ((mx_J M5 98 0 = x4.toInt64 → mx_W m_L_law (d + 1) 2312 [.retAddr 1, .ref 1, .ref 58, .ref 98, .int v4, .retAddr 0, .retAddr 0] [] M5 Q) ∧ (¬ mx_J M5 98 0 = x4.toInt64 → Q (.inl (some (.int (mx_b false)))) M5))))) ∧ (¬ x6 = x2 → Q (.inl (some (.int (mx_b false)))) M5)))))))))))))))) :
    mx_W m_L_law (d + 1) 781 [.retAddr 1, .ref 1, .ref 58, .ref 98, .int v4, .retAddr 0, .retAddr 0] [] M Q := by
  refine mx_aload_n 1 (mx_da t_L_law_781 0 rfl) rfl rfl rfl rfl ?_
  refine mx_aload_n 0 (mx_da t_L_law_781 1 rfl) rfl rfl rfl rfl ?_
  refine mx_iload 4 (mx_da t_L_law_781 2 rfl) rfl rfl ?_
  refine mx_iconst (v := 1) (mx_da t_L_law_781 3 rfl) rfl rfl ?_
  refine mx_iadd (mx_da t_L_law_781 4 rfl) rfl ?_
  refine mx_sld h.1 (mx_da t_L_law_781 5 rfl) rfl ?_
  have h := h.2
  refine mx_aload_n 0 (mx_da t_L_law_781 6 rfl) rfl rfl rfl rfl ?_
  refine mx_iload 4 (mx_da t_L_law_781 7 rfl) rfl rfl ?_
  refine mx_iconst (v := 2) (mx_da t_L_law_781 8 rfl) rfl rfl ?_
  refine mx_iadd (mx_da t_L_law_781 9 rfl) rfl ?_
  refine mx_sld h.1 (mx_da t_L_law_781 10 rfl) rfl ?_
  have h := h.2
  refine mx_aload_n 3 (mx_da t_L_law_781 11 rfl) rfl rfl rfl rfl ?_
  refine mx_callSX yL_at m_L_at [.ref 1, .int ((mx_scr M).2 (v4 + 1).toNatClampNeg), .int ((mx_scr M).2 (v4 + 2).toNatClampNeg), .ref 98] mm_L_at ml_RL_145 st_L_at rfl (Nat.le_of_ble_eq_true rfl) (mx_da t_L_law_781 12 rfl) rfl (Nat.le_of_ble_eq_true rfl) rfl ?_
  refine mx_mono h ?_
  intro o M1 ho
  obtain ⟨T1, x2, rfl, h⟩ := ho
  refine ⟨T1.1.trans T.1.symm, ?_⟩
  have T := T1
  clear T1
  show mx_W m_L_law (d + 1) 798 [.retAddr 1, .ref 1, .ref 58, .ref 98, .int v4, .retAddr 0, .retAddr 0] [.int x2] M1 Q
  refine mx_istore 5 [.retAddr 1, .ref 1, .ref 58, .ref 98, .int v4, .int x2, .retAddr 0] (mx_da t_L_law_781 13 rfl) rfl (by decide) rfl ?_
  refine mx_aload_n 2 (mx_da t_L_law_781 14 rfl) rfl rfl rfl rfl ?_
  refine mx_aload_n 0 (mx_da t_L_law_781 15 rfl) rfl rfl rfl rfl ?_
  refine mx_iload 4 (mx_da t_L_law_781 16 rfl) rfl rfl ?_
  refine mx_iconst (v := 1) (mx_da t_L_law_781 17 rfl) rfl rfl ?_
  refine mx_iadd (mx_da t_L_law_781 18 rfl) rfl ?_
  refine mx_sld h.1 (mx_da t_L_law_781 19 rfl) rfl ?_
  have h := h.2
  refine mx_aload_n 0 (mx_da t_L_law_781 20 rfl) rfl rfl rfl rfl ?_
  refine mx_iload 4 (mx_da t_L_law_781 21 rfl) rfl rfl ?_
  refine mx_iconst (v := 2) (mx_da t_L_law_781 22 rfl) rfl rfl ?_
  refine mx_iadd (mx_da t_L_law_781 23 rfl) rfl ?_
  refine mx_sld h.1 (mx_da t_L_law_781 24 rfl) rfl ?_
  have h := h.2
  refine mx_callV yX11_at m_X11_at [.int ((mx_scr M1).2 (v4 + 1).toNatClampNeg), .int ((mx_scr M1).2 (v4 + 2).toNatClampNeg)] mm_X11_at ml_RL_147 im_X11_at se_X11_at (tp_s T 58 rfl) rfl rfl (Nat.le_of_ble_eq_true rfl) (mx_da t_L_law_781 25 rfl) rfl (Nat.le_of_ble_eq_true rfl) rfl ?_
  refine mx_mono h ?_
  intro o M3 ho
  obtain ⟨T1, x4, rfl, h⟩ := ho
  refine ⟨T1.1.trans T.1.symm, ?_⟩
  have T := T1
  clear T1
  show mx_W m_L_law (d + 1) 816 [.retAddr 1, .ref 1, .ref 58, .ref 98, .int v4, .int x2, .retAddr 0] [.int x4] M3 Q
  refine mx_istore 6 [.retAddr 1, .ref 1, .ref 58, .ref 98, .int v4, .int x2, .int x4] (mx_da t_L_law_781 26 rfl) rfl (by decide) rfl ?_
  refine mx_aload_n 2 (mx_da t_L_law_781 27 rfl) rfl rfl rfl rfl ?_
  refine mx_callV yX11_thrown m_X11_thrown [] mm_X11_thrown ml_RL_117 im_X11_thrown se_X11_thrown (tp_s T 58 rfl) rfl rfl (Nat.le_of_ble_eq_true rfl) (mx_da t_L_law_781 28 rfl) rfl (Nat.le_of_ble_eq_true rfl) rfl ?_
  refine mx_mono h ?_
  intro o M5 ho
  obtain ⟨T1, x6, rfl, h⟩ := ho
  refine ⟨T1.1.trans T.1.symm, ?_⟩
  have T := T1
  clear T1
  show mx_W m_L_law (d + 1) 822 [.retAddr 1, .ref 1, .ref 58, .ref 98, .int v4, .int x2, .int x4] [.int x6] M5 Q
  refine mx_iload 5 (mx_da t_L_law_781 29 rfl) rfl rfl ?_
  refine mx_icmp_eq 829 (mx_da t_L_law_781 30 rfl) rfl rfl (fun g9 => ?_) (fun g9 => ?_)
  · have h := h.1 g9
    refine mx_iload 5 (mx_da t_L_law_781 33 rfl) rfl rfl ?_
    refine mx_if_ne 846 (mx_da t_L_law_781 34 rfl) rfl rfl (fun g9 => ?_) (fun g9 => ?_)
    · have h := h.1 g9
      refine mx_goto (n := 2312) (mx_da t_L_law_781 44 rfl) rfl ?_
      exact mx_wkn [.retAddr 1, .ref 1, .ref 58, .ref 98, .int v4, .retAddr 0, .retAddr 0] ⟨Or.inr rfl, Or.inr rfl, Or.inr rfl, Or.inr rfl, Or.inr rfl, Or.inl rfl, Or.inl rfl, trivial⟩ h
    · have h := h.2 g9
      refine mx_aload_n 3 (mx_da t_L_law_781 35 rfl) rfl rfl rfl rfl ?_
      refine mx_iconst (v := 0) (mx_da t_L_law_781 36 rfl) rfl rfl ?_
      refine mx_lald (tp_s T 98 rfl) (mx_vin rfl) (mx_da t_L_law_781 37 rfl) rfl ?_
      refine mx_iload 6 (mx_da t_L_law_781 38 rfl) rfl rfl ?_
      refine mx_i2l (mx_da t_L_law_781 39 rfl) rfl ?_
      refine mx_lcmp (mx_da t_L_law_781 40 rfl) rfl ?_
      refine mx_if_eq 846 (mx_da t_L_law_781 41 rfl) rfl rfl (fun g9 => ?_) (fun g9 => ?_)
      · have h := h.1 (mx_lc0.mp g9)
        refine mx_goto (n := 2312) (mx_da t_L_law_781 44 rfl) rfl ?_
        exact mx_wkn [.retAddr 1, .ref 1, .ref 58, .ref 98, .int v4, .retAddr 0, .retAddr 0] ⟨Or.inr rfl, Or.inr rfl, Or.inr rfl, Or.inr rfl, Or.inr rfl, Or.inl rfl, Or.inl rfl, trivial⟩ h
      · have h := h.2 (mx_lcn.mp g9)
        refine mx_iconst (v := 0) (mx_da t_L_law_781 42 rfl) rfl rfl ?_
        exact mx_zret rfl rfl (mx_da t_L_law_781 43 rfl) h
  · have h := h.2 g9
    refine mx_iconst (v := 0) (mx_da t_L_law_781 31 rfl) rfl rfl ?_
    exact mx_zret rfl rfl (mx_da t_L_law_781 32 rfl) h
set_option maxHeartbeats 4000000 in
theorem x_L_law_849 {d : Nat} {M : mx_M} {Q : mx_O → mx_M → Prop} (T : mx_Tp M) (v4 : Int32)
    (h : (vp_in (v4 + 1) (mx_scr M).1 ∧ (mx_W m_L_drawer d 0 [.ref 1, .int ((mx_scr M).2 (v4 + 1).toNatClampNeg), .ref 98, .retAddr 0] [] M (fun o M1 => mx_Tp M1 ∧ (∃ x2 : Int32, o = .inl (some (.int x2)) ∧ (vp_in (v4 + 1) (mx_scr M1).1 ∧ (mx_W m_X11_drawer d 0 [.ref 58, .int ((mx_scr M1).2 (v4 + 1).toNatClampNeg)] [] M1 (fun o M3 => mx_Tp M3 ∧ (∃ x4 : Int32, o = .inl (some (.int x4)) ∧ (mx_W m_X11_thrown d 0 [.ref 58] [] M3 (fun o M5 => mx_Tp M5 ∧ (∃ x6 : Int32, o = .inl (some (.int x6)) ∧ ((x6 = x2 → ((¬ x2 = 0 → mx_W m_L_law (d + 1) 2312 [.retAddr 1, .ref 1, .ref 58, .ref 98, .int v4, .retAddr 0, .retAddr 0] [] M5 Q) ∧ (x2 = 0 → ((mx_J M5 98 0 = x4.toInt64 → mx_W m_L_law (d + 1) 2312 [.retAddr 1, .ref 1, .ref 58, .ref 98, .int v4, .retAddr 0, .retAddr 0] [] M5 Q) ∧ (¬ mx_J M5 98 0 = x4.toInt64 → Q (.inl (some (.int (mx_b false)))) M5))))) ∧ (¬ x6 = x2 → Q (.inl (some (.int (mx_b false)))) M5)))))))))))))) :
    mx_W m_L_law (d + 1) 849 [.retAddr 1, .ref 1, .ref 58, .ref 98, .int v4, .retAddr 0, .retAddr 0] [] M Q := by
  refine mx_aload_n 1 (mx_da t_L_law_849 0 rfl) rfl rfl rfl rfl ?_
  refine mx_aload_n 0 (mx_da t_L_law_849 1 rfl) rfl rfl rfl rfl ?_
  refine mx_iload 4 (mx_da t_L_law_849 2 rfl) rfl rfl ?_
  refine mx_iconst (v := 1) (mx_da t_L_law_849 3 rfl) rfl rfl ?_
  refine mx_iadd (mx_da t_L_law_849 4 rfl) rfl ?_
  refine mx_sld h.1 (mx_da t_L_law_849 5 rfl) rfl ?_
  have h := h.2
  refine mx_aload_n 3 (mx_da t_L_law_849 6 rfl) rfl rfl rfl rfl ?_
  refine mx_callSX yL_drawer m_L_drawer [.ref 1, .int ((mx_scr M).2 (v4 + 1).toNatClampNeg), .ref 98] mm_L_drawer ml_RL_148 st_L_drawer rfl (Nat.le_of_ble_eq_true rfl) (mx_da t_L_law_849 7 rfl) rfl (Nat.le_of_ble_eq_true rfl) rfl ?_
  refine mx_mono h ?_
  intro o M1 ho
  obtain ⟨T1, x2, rfl, h⟩ := ho
  refine ⟨T1.1.trans T.1.symm, ?_⟩
  have T := T1
  clear T1
  show mx_W m_L_law (d + 1) 860 [.retAddr 1, .ref 1, .ref 58, .ref 98, .int v4, .retAddr 0, .retAddr 0] [.int x2] M1 Q
  refine mx_istore 5 [.retAddr 1, .ref 1, .ref 58, .ref 98, .int v4, .int x2, .retAddr 0] (mx_da t_L_law_849 8 rfl) rfl (by decide) rfl ?_
  refine mx_aload_n 2 (mx_da t_L_law_849 9 rfl) rfl rfl rfl rfl ?_
  refine mx_aload_n 0 (mx_da t_L_law_849 10 rfl) rfl rfl rfl rfl ?_
  refine mx_iload 4 (mx_da t_L_law_849 11 rfl) rfl rfl ?_
  refine mx_iconst (v := 1) (mx_da t_L_law_849 12 rfl) rfl rfl ?_
  refine mx_iadd (mx_da t_L_law_849 13 rfl) rfl ?_
  refine mx_sld h.1 (mx_da t_L_law_849 14 rfl) rfl ?_
  have h := h.2
  refine mx_callV yX11_drawer m_X11_drawer [.int ((mx_scr M1).2 (v4 + 1).toNatClampNeg)] mm_X11_drawer ml_RL_150 im_X11_drawer se_X11_drawer (tp_s T 58 rfl) rfl rfl (Nat.le_of_ble_eq_true rfl) (mx_da t_L_law_849 15 rfl) rfl (Nat.le_of_ble_eq_true rfl) rfl ?_
  refine mx_mono h ?_
  intro o M3 ho
  obtain ⟨T1, x4, rfl, h⟩ := ho
  refine ⟨T1.1.trans T.1.symm, ?_⟩
  have T := T1
  clear T1
  show mx_W m_L_law (d + 1) 872 [.retAddr 1, .ref 1, .ref 58, .ref 98, .int v4, .int x2, .retAddr 0] [.int x4] M3 Q
  refine mx_istore 6 [.retAddr 1, .ref 1, .ref 58, .ref 98, .int v4, .int x2, .int x4] (mx_da t_L_law_849 16 rfl) rfl (by decide) rfl ?_
  refine mx_aload_n 2 (mx_da t_L_law_849 17 rfl) rfl rfl rfl rfl ?_
  refine mx_callV yX11_thrown m_X11_thrown [] mm_X11_thrown ml_RL_117 im_X11_thrown se_X11_thrown (tp_s T 58 rfl) rfl rfl (Nat.le_of_ble_eq_true rfl) (mx_da t_L_law_849 18 rfl) rfl (Nat.le_of_ble_eq_true rfl) rfl ?_
  refine mx_mono h ?_
  intro o M5 ho
  obtain ⟨T1, x6, rfl, h⟩ := ho
  refine ⟨T1.1.trans T.1.symm, ?_⟩
  have T := T1
  clear T1
  show mx_W m_L_law (d + 1) 878 [.retAddr 1, .ref 1, .ref 58, .ref 98, .int v4, .int x2, .int x4] [.int x6] M5 Q
  refine mx_iload 5 (mx_da t_L_law_849 19 rfl) rfl rfl ?_
  refine mx_icmp_eq 885 (mx_da t_L_law_849 20 rfl) rfl rfl (fun g9 => ?_) (fun g9 => ?_)
  · have h := h.1 g9
    refine mx_iload 5 (mx_da t_L_law_849 23 rfl) rfl rfl ?_
    refine mx_if_ne 902 (mx_da t_L_law_849 24 rfl) rfl rfl (fun g9 => ?_) (fun g9 => ?_)
    · have h := h.1 g9
      refine mx_goto (n := 2312) (mx_da t_L_law_849 34 rfl) rfl ?_
      exact mx_wkn [.retAddr 1, .ref 1, .ref 58, .ref 98, .int v4, .retAddr 0, .retAddr 0] ⟨Or.inr rfl, Or.inr rfl, Or.inr rfl, Or.inr rfl, Or.inr rfl, Or.inl rfl, Or.inl rfl, trivial⟩ h
    · have h := h.2 g9
      refine mx_aload_n 3 (mx_da t_L_law_849 25 rfl) rfl rfl rfl rfl ?_
      refine mx_iconst (v := 0) (mx_da t_L_law_849 26 rfl) rfl rfl ?_
      refine mx_lald (tp_s T 98 rfl) (mx_vin rfl) (mx_da t_L_law_849 27 rfl) rfl ?_
      refine mx_iload 6 (mx_da t_L_law_849 28 rfl) rfl rfl ?_
      refine mx_i2l (mx_da t_L_law_849 29 rfl) rfl ?_
      refine mx_lcmp (mx_da t_L_law_849 30 rfl) rfl ?_
      refine mx_if_eq 902 (mx_da t_L_law_849 31 rfl) rfl rfl (fun g9 => ?_) (fun g9 => ?_)
      · have h := h.1 (mx_lc0.mp g9)
        refine mx_goto (n := 2312) (mx_da t_L_law_849 34 rfl) rfl ?_
        exact mx_wkn [.retAddr 1, .ref 1, .ref 58, .ref 98, .int v4, .retAddr 0, .retAddr 0] ⟨Or.inr rfl, Or.inr rfl, Or.inr rfl, Or.inr rfl, Or.inr rfl, Or.inl rfl, Or.inl rfl, trivial⟩ h
      · have h := h.2 (mx_lcn.mp g9)
        refine mx_iconst (v := 0) (mx_da t_L_law_849 32 rfl) rfl rfl ?_
        exact mx_zret rfl rfl (mx_da t_L_law_849 33 rfl) h
  · have h := h.2 g9
    refine mx_iconst (v := 0) (mx_da t_L_law_849 21 rfl) rfl rfl ?_
    exact mx_zret rfl rfl (mx_da t_L_law_849 22 rfl) h
set_option maxHeartbeats 4000000 in
theorem x_L_law_905 {d : Nat} {M : mx_M} {Q : mx_O → mx_M → Prop} (T : mx_Tp M) (v4 : Int32)
    (h : (vp_in (v4 + 1) (mx_scr M).1 ∧ (vp_in (v4 + 2) (mx_scr M).1 ∧ (mx_W m_L_put d 0 [.ref 1, .int ((mx_scr M).2 (v4 + 1).toNatClampNeg), .int ((mx_scr M).2 (v4 + 2).toNatClampNeg), .ref 98, .retAddr 0] [] M (fun o M1 => mx_Tp M1 ∧ (∃ x2 : Int32, o = .inl (some (.int x2)) ∧ (vp_in (v4 + 1) (mx_scr M1).1 ∧ (vp_in (v4 + 2) (mx_scr M1).1 ∧ (mx_W m_X11_put d 0 [.ref 58, .int ((mx_scr M1).2 (v4 + 1).toNatClampNeg), .int ((mx_scr M1).2 (v4 + 2).toNatClampNeg), .retAddr 0] [] M1 (fun o M3 => mx_Tp M3 ∧ (∃ x4 : Int32, o = .inl (some (.int x4)) ∧ (mx_W m_X11_thrown d 0 [.ref 58] [] M3 (fun o M5 => mx_Tp M5 ∧ (∃ x6 : Int32, o = .inl (some (.int x6)) ∧ ((x6 = x2 → ((¬ x2 = 0 → mx_W m_L_law (d + 1) 2312 [.retAddr 1, .ref 1, .ref 58, .ref 98, .int v4, .retAddr 0, .retAddr 0] [] M5 Q) ∧ (x2 = 0 → ((mx_J M5 98 0 = x4.toInt64 → mx_W m_L_law (d + 1) 2312 [.retAddr 1, .ref 1, .ref 58, .ref 98, .int v4, .retAddr 0, .retAddr 0] [] M5 Q) ∧ (¬ mx_J M5 98 0 = x4.toInt64 → Q (.inl (some (.int (mx_b false)))) M5))))) ∧ (¬ x6 = x2 → Q (.inl (some (.int (mx_b false)))) M5)))))))))))))))) :
    mx_W m_L_law (d + 1) 905 [.retAddr 1, .ref 1, .ref 58, .ref 98, .int v4, .retAddr 0, .retAddr 0] [] M Q := by
  refine mx_aload_n 1 (mx_da t_L_law_905 0 rfl) rfl rfl rfl rfl ?_
  refine mx_aload_n 0 (mx_da t_L_law_905 1 rfl) rfl rfl rfl rfl ?_
  refine mx_iload 4 (mx_da t_L_law_905 2 rfl) rfl rfl ?_
  refine mx_iconst (v := 1) (mx_da t_L_law_905 3 rfl) rfl rfl ?_
  refine mx_iadd (mx_da t_L_law_905 4 rfl) rfl ?_
  refine mx_sld h.1 (mx_da t_L_law_905 5 rfl) rfl ?_
  have h := h.2
  refine mx_aload_n 0 (mx_da t_L_law_905 6 rfl) rfl rfl rfl rfl ?_
  refine mx_iload 4 (mx_da t_L_law_905 7 rfl) rfl rfl ?_
  refine mx_iconst (v := 2) (mx_da t_L_law_905 8 rfl) rfl rfl ?_
  refine mx_iadd (mx_da t_L_law_905 9 rfl) rfl ?_
  refine mx_sld h.1 (mx_da t_L_law_905 10 rfl) rfl ?_
  have h := h.2
  refine mx_aload_n 3 (mx_da t_L_law_905 11 rfl) rfl rfl rfl rfl ?_
  refine mx_callSX yL_put m_L_put [.ref 1, .int ((mx_scr M).2 (v4 + 1).toNatClampNeg), .int ((mx_scr M).2 (v4 + 2).toNatClampNeg), .ref 98] mm_L_put ml_RL_151 st_L_put rfl (Nat.le_of_ble_eq_true rfl) (mx_da t_L_law_905 12 rfl) rfl (Nat.le_of_ble_eq_true rfl) rfl ?_
  refine mx_mono h ?_
  intro o M1 ho
  obtain ⟨T1, x2, rfl, h⟩ := ho
  refine ⟨T1.1.trans T.1.symm, ?_⟩
  have T := T1
  clear T1
  show mx_W m_L_law (d + 1) 922 [.retAddr 1, .ref 1, .ref 58, .ref 98, .int v4, .retAddr 0, .retAddr 0] [.int x2] M1 Q
  refine mx_istore 5 [.retAddr 1, .ref 1, .ref 58, .ref 98, .int v4, .int x2, .retAddr 0] (mx_da t_L_law_905 13 rfl) rfl (by decide) rfl ?_
  refine mx_aload_n 2 (mx_da t_L_law_905 14 rfl) rfl rfl rfl rfl ?_
  refine mx_aload_n 0 (mx_da t_L_law_905 15 rfl) rfl rfl rfl rfl ?_
  refine mx_iload 4 (mx_da t_L_law_905 16 rfl) rfl rfl ?_
  refine mx_iconst (v := 1) (mx_da t_L_law_905 17 rfl) rfl rfl ?_
  refine mx_iadd (mx_da t_L_law_905 18 rfl) rfl ?_
  refine mx_sld h.1 (mx_da t_L_law_905 19 rfl) rfl ?_
  have h := h.2
  refine mx_aload_n 0 (mx_da t_L_law_905 20 rfl) rfl rfl rfl rfl ?_
  refine mx_iload 4 (mx_da t_L_law_905 21 rfl) rfl rfl ?_
  refine mx_iconst (v := 2) (mx_da t_L_law_905 22 rfl) rfl rfl ?_
  refine mx_iadd (mx_da t_L_law_905 23 rfl) rfl ?_
  refine mx_sld h.1 (mx_da t_L_law_905 24 rfl) rfl ?_
  have h := h.2
  refine mx_callV yX11_put m_X11_put [.int ((mx_scr M1).2 (v4 + 1).toNatClampNeg), .int ((mx_scr M1).2 (v4 + 2).toNatClampNeg)] mm_X11_put ml_RL_153 im_X11_put se_X11_put (tp_s T 58 rfl) rfl rfl (Nat.le_of_ble_eq_true rfl) (mx_da t_L_law_905 25 rfl) rfl (Nat.le_of_ble_eq_true rfl) rfl ?_
  refine mx_mono h ?_
  intro o M3 ho
  obtain ⟨T1, x4, rfl, h⟩ := ho
  refine ⟨T1.1.trans T.1.symm, ?_⟩
  have T := T1
  clear T1
  show mx_W m_L_law (d + 1) 940 [.retAddr 1, .ref 1, .ref 58, .ref 98, .int v4, .int x2, .retAddr 0] [.int x4] M3 Q
  refine mx_istore 6 [.retAddr 1, .ref 1, .ref 58, .ref 98, .int v4, .int x2, .int x4] (mx_da t_L_law_905 26 rfl) rfl (by decide) rfl ?_
  refine mx_aload_n 2 (mx_da t_L_law_905 27 rfl) rfl rfl rfl rfl ?_
  refine mx_callV yX11_thrown m_X11_thrown [] mm_X11_thrown ml_RL_117 im_X11_thrown se_X11_thrown (tp_s T 58 rfl) rfl rfl (Nat.le_of_ble_eq_true rfl) (mx_da t_L_law_905 28 rfl) rfl (Nat.le_of_ble_eq_true rfl) rfl ?_
  refine mx_mono h ?_
  intro o M5 ho
  obtain ⟨T1, x6, rfl, h⟩ := ho
  refine ⟨T1.1.trans T.1.symm, ?_⟩
  have T := T1
  clear T1
  show mx_W m_L_law (d + 1) 946 [.retAddr 1, .ref 1, .ref 58, .ref 98, .int v4, .int x2, .int x4] [.int x6] M5 Q
  refine mx_iload 5 (mx_da t_L_law_905 29 rfl) rfl rfl ?_
  refine mx_icmp_eq 953 (mx_da t_L_law_905 30 rfl) rfl rfl (fun g9 => ?_) (fun g9 => ?_)
  · have h := h.1 g9
    refine mx_iload 5 (mx_da t_L_law_905 33 rfl) rfl rfl ?_
    refine mx_if_ne 970 (mx_da t_L_law_905 34 rfl) rfl rfl (fun g9 => ?_) (fun g9 => ?_)
    · have h := h.1 g9
      refine mx_goto (n := 2312) (mx_da t_L_law_905 44 rfl) rfl ?_
      exact mx_wkn [.retAddr 1, .ref 1, .ref 58, .ref 98, .int v4, .retAddr 0, .retAddr 0] ⟨Or.inr rfl, Or.inr rfl, Or.inr rfl, Or.inr rfl, Or.inr rfl, Or.inl rfl, Or.inl rfl, trivial⟩ h
    · have h := h.2 g9
      refine mx_aload_n 3 (mx_da t_L_law_905 35 rfl) rfl rfl rfl rfl ?_
      refine mx_iconst (v := 0) (mx_da t_L_law_905 36 rfl) rfl rfl ?_
      refine mx_lald (tp_s T 98 rfl) (mx_vin rfl) (mx_da t_L_law_905 37 rfl) rfl ?_
      refine mx_iload 6 (mx_da t_L_law_905 38 rfl) rfl rfl ?_
      refine mx_i2l (mx_da t_L_law_905 39 rfl) rfl ?_
      refine mx_lcmp (mx_da t_L_law_905 40 rfl) rfl ?_
      refine mx_if_eq 970 (mx_da t_L_law_905 41 rfl) rfl rfl (fun g9 => ?_) (fun g9 => ?_)
      · have h := h.1 (mx_lc0.mp g9)
        refine mx_goto (n := 2312) (mx_da t_L_law_905 44 rfl) rfl ?_
        exact mx_wkn [.retAddr 1, .ref 1, .ref 58, .ref 98, .int v4, .retAddr 0, .retAddr 0] ⟨Or.inr rfl, Or.inr rfl, Or.inr rfl, Or.inr rfl, Or.inr rfl, Or.inl rfl, Or.inl rfl, trivial⟩ h
      · have h := h.2 (mx_lcn.mp g9)
        refine mx_iconst (v := 0) (mx_da t_L_law_905 42 rfl) rfl rfl ?_
        exact mx_zret rfl rfl (mx_da t_L_law_905 43 rfl) h
  · have h := h.2 g9
    refine mx_iconst (v := 0) (mx_da t_L_law_905 31 rfl) rfl rfl ?_
    exact mx_zret rfl rfl (mx_da t_L_law_905 32 rfl) h
set_option maxHeartbeats 4000000 in
theorem x_L_law_973 {d : Nat} {M : mx_M} {Q : mx_O → mx_M → Prop} (T : mx_Tp M) (v4 : Int32)
    (h : (vp_in (v4 + 1) (mx_scr M).1 ∧ (mx_W m_L_take d 0 [.ref 1, .int ((mx_scr M).2 (v4 + 1).toNatClampNeg), .ref 98, .retAddr 0] [] M (fun o M1 => mx_Tp M1 ∧ (∃ x2 : Int32, o = .inl (some (.int x2)) ∧ (vp_in (v4 + 1) (mx_scr M1).1 ∧ (mx_W m_X11_take d 0 [.ref 58, .int ((mx_scr M1).2 (v4 + 1).toNatClampNeg), .retAddr 0] [] M1 (fun o M3 => mx_Tp M3 ∧ (∃ x4 : Int32, o = .inl (some (.int x4)) ∧ (mx_W m_X11_thrown d 0 [.ref 58] [] M3 (fun o M5 => mx_Tp M5 ∧ (∃ x6 : Int32, o = .inl (some (.int x6)) ∧ ((x6 = x2 → ((¬ x2 = 0 → mx_W m_L_law (d + 1) 2312 [.retAddr 1, .ref 1, .ref 58, .ref 98, .int v4, .retAddr 0, .retAddr 0] [] M5 Q) ∧ (x2 = 0 → ((mx_J M5 98 0 = x4.toInt64 → mx_W m_L_law (d + 1) 2312 [.retAddr 1, .ref 1, .ref 58, .ref 98, .int v4, .retAddr 0, .retAddr 0] [] M5 Q) ∧ (¬ mx_J M5 98 0 = x4.toInt64 → Q (.inl (some (.int (mx_b false)))) M5))))) ∧ (¬ x6 = x2 → Q (.inl (some (.int (mx_b false)))) M5)))))))))))))) :
    mx_W m_L_law (d + 1) 973 [.retAddr 1, .ref 1, .ref 58, .ref 98, .int v4, .retAddr 0, .retAddr 0] [] M Q := by
  refine mx_aload_n 1 (mx_da t_L_law_973 0 rfl) rfl rfl rfl rfl ?_
  refine mx_aload_n 0 (mx_da t_L_law_973 1 rfl) rfl rfl rfl rfl ?_
  refine mx_iload 4 (mx_da t_L_law_973 2 rfl) rfl rfl ?_
  refine mx_iconst (v := 1) (mx_da t_L_law_973 3 rfl) rfl rfl ?_
  refine mx_iadd (mx_da t_L_law_973 4 rfl) rfl ?_
  refine mx_sld h.1 (mx_da t_L_law_973 5 rfl) rfl ?_
  have h := h.2
  refine mx_aload_n 3 (mx_da t_L_law_973 6 rfl) rfl rfl rfl rfl ?_
  refine mx_callSX yL_take m_L_take [.ref 1, .int ((mx_scr M).2 (v4 + 1).toNatClampNeg), .ref 98] mm_L_take ml_RL_154 st_L_take rfl (Nat.le_of_ble_eq_true rfl) (mx_da t_L_law_973 7 rfl) rfl (Nat.le_of_ble_eq_true rfl) rfl ?_
  refine mx_mono h ?_
  intro o M1 ho
  obtain ⟨T1, x2, rfl, h⟩ := ho
  refine ⟨T1.1.trans T.1.symm, ?_⟩
  have T := T1
  clear T1
  show mx_W m_L_law (d + 1) 984 [.retAddr 1, .ref 1, .ref 58, .ref 98, .int v4, .retAddr 0, .retAddr 0] [.int x2] M1 Q
  refine mx_istore 5 [.retAddr 1, .ref 1, .ref 58, .ref 98, .int v4, .int x2, .retAddr 0] (mx_da t_L_law_973 8 rfl) rfl (by decide) rfl ?_
  refine mx_aload_n 2 (mx_da t_L_law_973 9 rfl) rfl rfl rfl rfl ?_
  refine mx_aload_n 0 (mx_da t_L_law_973 10 rfl) rfl rfl rfl rfl ?_
  refine mx_iload 4 (mx_da t_L_law_973 11 rfl) rfl rfl ?_
  refine mx_iconst (v := 1) (mx_da t_L_law_973 12 rfl) rfl rfl ?_
  refine mx_iadd (mx_da t_L_law_973 13 rfl) rfl ?_
  refine mx_sld h.1 (mx_da t_L_law_973 14 rfl) rfl ?_
  have h := h.2
  refine mx_callV yX11_take m_X11_take [.int ((mx_scr M1).2 (v4 + 1).toNatClampNeg)] mm_X11_take ml_RL_156 im_X11_take se_X11_take (tp_s T 58 rfl) rfl rfl (Nat.le_of_ble_eq_true rfl) (mx_da t_L_law_973 15 rfl) rfl (Nat.le_of_ble_eq_true rfl) rfl ?_
  refine mx_mono h ?_
  intro o M3 ho
  obtain ⟨T1, x4, rfl, h⟩ := ho
  refine ⟨T1.1.trans T.1.symm, ?_⟩
  have T := T1
  clear T1
  show mx_W m_L_law (d + 1) 996 [.retAddr 1, .ref 1, .ref 58, .ref 98, .int v4, .int x2, .retAddr 0] [.int x4] M3 Q
  refine mx_istore 6 [.retAddr 1, .ref 1, .ref 58, .ref 98, .int v4, .int x2, .int x4] (mx_da t_L_law_973 16 rfl) rfl (by decide) rfl ?_
  refine mx_aload_n 2 (mx_da t_L_law_973 17 rfl) rfl rfl rfl rfl ?_
  refine mx_callV yX11_thrown m_X11_thrown [] mm_X11_thrown ml_RL_117 im_X11_thrown se_X11_thrown (tp_s T 58 rfl) rfl rfl (Nat.le_of_ble_eq_true rfl) (mx_da t_L_law_973 18 rfl) rfl (Nat.le_of_ble_eq_true rfl) rfl ?_
  refine mx_mono h ?_
  intro o M5 ho
  obtain ⟨T1, x6, rfl, h⟩ := ho
  refine ⟨T1.1.trans T.1.symm, ?_⟩
  have T := T1
  clear T1
  show mx_W m_L_law (d + 1) 1002 [.retAddr 1, .ref 1, .ref 58, .ref 98, .int v4, .int x2, .int x4] [.int x6] M5 Q
  refine mx_iload 5 (mx_da t_L_law_973 19 rfl) rfl rfl ?_
  refine mx_icmp_eq 1009 (mx_da t_L_law_973 20 rfl) rfl rfl (fun g9 => ?_) (fun g9 => ?_)
  · have h := h.1 g9
    refine mx_iload 5 (mx_da t_L_law_973 23 rfl) rfl rfl ?_
    refine mx_if_ne 1026 (mx_da t_L_law_973 24 rfl) rfl rfl (fun g9 => ?_) (fun g9 => ?_)
    · have h := h.1 g9
      refine mx_goto (n := 2312) (mx_da t_L_law_973 34 rfl) rfl ?_
      exact mx_wkn [.retAddr 1, .ref 1, .ref 58, .ref 98, .int v4, .retAddr 0, .retAddr 0] ⟨Or.inr rfl, Or.inr rfl, Or.inr rfl, Or.inr rfl, Or.inr rfl, Or.inl rfl, Or.inl rfl, trivial⟩ h
    · have h := h.2 g9
      refine mx_aload_n 3 (mx_da t_L_law_973 25 rfl) rfl rfl rfl rfl ?_
      refine mx_iconst (v := 0) (mx_da t_L_law_973 26 rfl) rfl rfl ?_
      refine mx_lald (tp_s T 98 rfl) (mx_vin rfl) (mx_da t_L_law_973 27 rfl) rfl ?_
      refine mx_iload 6 (mx_da t_L_law_973 28 rfl) rfl rfl ?_
      refine mx_i2l (mx_da t_L_law_973 29 rfl) rfl ?_
      refine mx_lcmp (mx_da t_L_law_973 30 rfl) rfl ?_
      refine mx_if_eq 1026 (mx_da t_L_law_973 31 rfl) rfl rfl (fun g9 => ?_) (fun g9 => ?_)
      · have h := h.1 (mx_lc0.mp g9)
        refine mx_goto (n := 2312) (mx_da t_L_law_973 34 rfl) rfl ?_
        exact mx_wkn [.retAddr 1, .ref 1, .ref 58, .ref 98, .int v4, .retAddr 0, .retAddr 0] ⟨Or.inr rfl, Or.inr rfl, Or.inr rfl, Or.inr rfl, Or.inr rfl, Or.inl rfl, Or.inl rfl, trivial⟩ h
      · have h := h.2 (mx_lcn.mp g9)
        refine mx_iconst (v := 0) (mx_da t_L_law_973 32 rfl) rfl rfl ?_
        exact mx_zret rfl rfl (mx_da t_L_law_973 33 rfl) h
  · have h := h.2 g9
    refine mx_iconst (v := 0) (mx_da t_L_law_973 21 rfl) rfl rfl ?_
    exact mx_zret rfl rfl (mx_da t_L_law_973 22 rfl) h
set_option maxHeartbeats 4000000 in
theorem x_L_law_1029 {d : Nat} {M : mx_M} {Q : mx_O → mx_M → Prop} (T : mx_Tp M) (v4 : Int32)
    (h : (vp_in (v4 + 1) (mx_scr M).1 ∧ (vp_in (v4 + 2) (mx_scr M).1 ∧ (mx_W m_L_move d 0 [.ref 1, .int ((mx_scr M).2 (v4 + 1).toNatClampNeg), .int ((mx_scr M).2 (v4 + 2).toNatClampNeg), .ref 98, .retAddr 0] [] M (fun o M1 => mx_Tp M1 ∧ (∃ x2 : Int32, o = .inl (some (.int x2)) ∧ (vp_in (v4 + 1) (mx_scr M1).1 ∧ (vp_in (v4 + 2) (mx_scr M1).1 ∧ (mx_W m_X11_move d 0 [.ref 58, .int ((mx_scr M1).2 (v4 + 1).toNatClampNeg), .int ((mx_scr M1).2 (v4 + 2).toNatClampNeg), .retAddr 0] [] M1 (fun o M3 => mx_Tp M3 ∧ (∃ x4 : Int32, o = .inl (some (.int x4)) ∧ (mx_W m_X11_thrown d 0 [.ref 58] [] M3 (fun o M5 => mx_Tp M5 ∧ (∃ x6 : Int32, o = .inl (some (.int x6)) ∧ ((x6 = x2 → ((¬ x2 = 0 → mx_W m_L_law (d + 1) 2312 [.retAddr 1, .ref 1, .ref 58, .ref 98, .int v4, .retAddr 0, .retAddr 0] [] M5 Q) ∧ (x2 = 0 → ((mx_J M5 98 0 = x4.toInt64 → mx_W m_L_law (d + 1) 2312 [.retAddr 1, .ref 1, .ref 58, .ref 98, .int v4, .retAddr 0, .retAddr 0] [] M5 Q) ∧ (¬ mx_J M5 98 0 = x4.toInt64 → Q (.inl (some (.int (mx_b false)))) M5))))) ∧ (¬ x6 = x2 → Q (.inl (some (.int (mx_b false)))) M5)))))))))))))))) :
    mx_W m_L_law (d + 1) 1029 [.retAddr 1, .ref 1, .ref 58, .ref 98, .int v4, .retAddr 0, .retAddr 0] [] M Q := by
  refine mx_aload_n 1 (mx_da t_L_law_1029 0 rfl) rfl rfl rfl rfl ?_
  refine mx_aload_n 0 (mx_da t_L_law_1029 1 rfl) rfl rfl rfl rfl ?_
  refine mx_iload 4 (mx_da t_L_law_1029 2 rfl) rfl rfl ?_
  refine mx_iconst (v := 1) (mx_da t_L_law_1029 3 rfl) rfl rfl ?_
  refine mx_iadd (mx_da t_L_law_1029 4 rfl) rfl ?_
  refine mx_sld h.1 (mx_da t_L_law_1029 5 rfl) rfl ?_
  have h := h.2
  refine mx_aload_n 0 (mx_da t_L_law_1029 6 rfl) rfl rfl rfl rfl ?_
  refine mx_iload 4 (mx_da t_L_law_1029 7 rfl) rfl rfl ?_
  refine mx_iconst (v := 2) (mx_da t_L_law_1029 8 rfl) rfl rfl ?_
  refine mx_iadd (mx_da t_L_law_1029 9 rfl) rfl ?_
  refine mx_sld h.1 (mx_da t_L_law_1029 10 rfl) rfl ?_
  have h := h.2
  refine mx_aload_n 3 (mx_da t_L_law_1029 11 rfl) rfl rfl rfl rfl ?_
  refine mx_callSX yL_move m_L_move [.ref 1, .int ((mx_scr M).2 (v4 + 1).toNatClampNeg), .int ((mx_scr M).2 (v4 + 2).toNatClampNeg), .ref 98] mm_L_move ml_RL_157 st_L_move rfl (Nat.le_of_ble_eq_true rfl) (mx_da t_L_law_1029 12 rfl) rfl (Nat.le_of_ble_eq_true rfl) rfl ?_
  refine mx_mono h ?_
  intro o M1 ho
  obtain ⟨T1, x2, rfl, h⟩ := ho
  refine ⟨T1.1.trans T.1.symm, ?_⟩
  have T := T1
  clear T1
  show mx_W m_L_law (d + 1) 1046 [.retAddr 1, .ref 1, .ref 58, .ref 98, .int v4, .retAddr 0, .retAddr 0] [.int x2] M1 Q
  refine mx_istore 5 [.retAddr 1, .ref 1, .ref 58, .ref 98, .int v4, .int x2, .retAddr 0] (mx_da t_L_law_1029 13 rfl) rfl (by decide) rfl ?_
  refine mx_aload_n 2 (mx_da t_L_law_1029 14 rfl) rfl rfl rfl rfl ?_
  refine mx_aload_n 0 (mx_da t_L_law_1029 15 rfl) rfl rfl rfl rfl ?_
  refine mx_iload 4 (mx_da t_L_law_1029 16 rfl) rfl rfl ?_
  refine mx_iconst (v := 1) (mx_da t_L_law_1029 17 rfl) rfl rfl ?_
  refine mx_iadd (mx_da t_L_law_1029 18 rfl) rfl ?_
  refine mx_sld h.1 (mx_da t_L_law_1029 19 rfl) rfl ?_
  have h := h.2
  refine mx_aload_n 0 (mx_da t_L_law_1029 20 rfl) rfl rfl rfl rfl ?_
  refine mx_iload 4 (mx_da t_L_law_1029 21 rfl) rfl rfl ?_
  refine mx_iconst (v := 2) (mx_da t_L_law_1029 22 rfl) rfl rfl ?_
  refine mx_iadd (mx_da t_L_law_1029 23 rfl) rfl ?_
  refine mx_sld h.1 (mx_da t_L_law_1029 24 rfl) rfl ?_
  have h := h.2
  refine mx_callV yX11_move m_X11_move [.int ((mx_scr M1).2 (v4 + 1).toNatClampNeg), .int ((mx_scr M1).2 (v4 + 2).toNatClampNeg)] mm_X11_move ml_RL_159 im_X11_move se_X11_move (tp_s T 58 rfl) rfl rfl (Nat.le_of_ble_eq_true rfl) (mx_da t_L_law_1029 25 rfl) rfl (Nat.le_of_ble_eq_true rfl) rfl ?_
  refine mx_mono h ?_
  intro o M3 ho
  obtain ⟨T1, x4, rfl, h⟩ := ho
  refine ⟨T1.1.trans T.1.symm, ?_⟩
  have T := T1
  clear T1
  show mx_W m_L_law (d + 1) 1064 [.retAddr 1, .ref 1, .ref 58, .ref 98, .int v4, .int x2, .retAddr 0] [.int x4] M3 Q
  refine mx_istore 6 [.retAddr 1, .ref 1, .ref 58, .ref 98, .int v4, .int x2, .int x4] (mx_da t_L_law_1029 26 rfl) rfl (by decide) rfl ?_
  refine mx_aload_n 2 (mx_da t_L_law_1029 27 rfl) rfl rfl rfl rfl ?_
  refine mx_callV yX11_thrown m_X11_thrown [] mm_X11_thrown ml_RL_117 im_X11_thrown se_X11_thrown (tp_s T 58 rfl) rfl rfl (Nat.le_of_ble_eq_true rfl) (mx_da t_L_law_1029 28 rfl) rfl (Nat.le_of_ble_eq_true rfl) rfl ?_
  refine mx_mono h ?_
  intro o M5 ho
  obtain ⟨T1, x6, rfl, h⟩ := ho
  refine ⟨T1.1.trans T.1.symm, ?_⟩
  have T := T1
  clear T1
  show mx_W m_L_law (d + 1) 1070 [.retAddr 1, .ref 1, .ref 58, .ref 98, .int v4, .int x2, .int x4] [.int x6] M5 Q
  refine mx_iload 5 (mx_da t_L_law_1029 29 rfl) rfl rfl ?_
  refine mx_icmp_eq 1077 (mx_da t_L_law_1029 30 rfl) rfl rfl (fun g9 => ?_) (fun g9 => ?_)
  · have h := h.1 g9
    refine mx_iload 5 (mx_da t_L_law_1029 33 rfl) rfl rfl ?_
    refine mx_if_ne 1094 (mx_da t_L_law_1029 34 rfl) rfl rfl (fun g9 => ?_) (fun g9 => ?_)
    · have h := h.1 g9
      refine mx_goto (n := 2312) (mx_da t_L_law_1029 44 rfl) rfl ?_
      exact mx_wkn [.retAddr 1, .ref 1, .ref 58, .ref 98, .int v4, .retAddr 0, .retAddr 0] ⟨Or.inr rfl, Or.inr rfl, Or.inr rfl, Or.inr rfl, Or.inr rfl, Or.inl rfl, Or.inl rfl, trivial⟩ h
    · have h := h.2 g9
      refine mx_aload_n 3 (mx_da t_L_law_1029 35 rfl) rfl rfl rfl rfl ?_
      refine mx_iconst (v := 0) (mx_da t_L_law_1029 36 rfl) rfl rfl ?_
      refine mx_lald (tp_s T 98 rfl) (mx_vin rfl) (mx_da t_L_law_1029 37 rfl) rfl ?_
      refine mx_iload 6 (mx_da t_L_law_1029 38 rfl) rfl rfl ?_
      refine mx_i2l (mx_da t_L_law_1029 39 rfl) rfl ?_
      refine mx_lcmp (mx_da t_L_law_1029 40 rfl) rfl ?_
      refine mx_if_eq 1094 (mx_da t_L_law_1029 41 rfl) rfl rfl (fun g9 => ?_) (fun g9 => ?_)
      · have h := h.1 (mx_lc0.mp g9)
        refine mx_goto (n := 2312) (mx_da t_L_law_1029 44 rfl) rfl ?_
        exact mx_wkn [.retAddr 1, .ref 1, .ref 58, .ref 98, .int v4, .retAddr 0, .retAddr 0] ⟨Or.inr rfl, Or.inr rfl, Or.inr rfl, Or.inr rfl, Or.inr rfl, Or.inl rfl, Or.inl rfl, trivial⟩ h
      · have h := h.2 (mx_lcn.mp g9)
        refine mx_iconst (v := 0) (mx_da t_L_law_1029 42 rfl) rfl rfl ?_
        exact mx_zret rfl rfl (mx_da t_L_law_1029 43 rfl) h
  · have h := h.2 g9
    refine mx_iconst (v := 0) (mx_da t_L_law_1029 31 rfl) rfl rfl ?_
    exact mx_zret rfl rfl (mx_da t_L_law_1029 32 rfl) h
set_option maxHeartbeats 4000000 in
theorem x_L_law_1097 {d : Nat} {M : mx_M} {Q : mx_O → mx_M → Prop} (T : mx_Tp M) (v4 : Int32)
    (h : (vp_in (v4 + 1) (mx_scr M).1 ∧ (mx_W m_L_file d 0 [.ref 1, .int ((mx_scr M).2 (v4 + 1).toNatClampNeg), .ref 98, .retAddr 0] [] M (fun o M1 => mx_Tp M1 ∧ (∃ x2 : Int32, o = .inl (some (.int x2)) ∧ (vp_in (v4 + 1) (mx_scr M1).1 ∧ (mx_W m_X11_file d 0 [.ref 58, .int ((mx_scr M1).2 (v4 + 1).toNatClampNeg), .retAddr 0, .retAddr 0] [] M1 (fun o M3 => mx_Tp M3 ∧ (∃ x4 : Int32, o = .inl (some (.int x4)) ∧ (mx_W m_X11_thrown d 0 [.ref 58] [] M3 (fun o M5 => mx_Tp M5 ∧ (∃ x6 : Int32, o = .inl (some (.int x6)) ∧ ((x6 = x2 → ((¬ x2 = 0 → mx_W m_L_law (d + 1) 2312 [.retAddr 1, .ref 1, .ref 58, .ref 98, .int v4, .retAddr 0, .retAddr 0] [] M5 Q) ∧ (x2 = 0 → ((mx_J M5 98 0 = x4.toInt64 → mx_W m_L_law (d + 1) 2312 [.retAddr 1, .ref 1, .ref 58, .ref 98, .int v4, .retAddr 0, .retAddr 0] [] M5 Q) ∧ (¬ mx_J M5 98 0 = x4.toInt64 → Q (.inl (some (.int (mx_b false)))) M5))))) ∧ (¬ x6 = x2 → Q (.inl (some (.int (mx_b false)))) M5)))))))))))))) :
    mx_W m_L_law (d + 1) 1097 [.retAddr 1, .ref 1, .ref 58, .ref 98, .int v4, .retAddr 0, .retAddr 0] [] M Q := by
  refine mx_aload_n 1 (mx_da t_L_law_1097 0 rfl) rfl rfl rfl rfl ?_
  refine mx_aload_n 0 (mx_da t_L_law_1097 1 rfl) rfl rfl rfl rfl ?_
  refine mx_iload 4 (mx_da t_L_law_1097 2 rfl) rfl rfl ?_
  refine mx_iconst (v := 1) (mx_da t_L_law_1097 3 rfl) rfl rfl ?_
  refine mx_iadd (mx_da t_L_law_1097 4 rfl) rfl ?_
  refine mx_sld h.1 (mx_da t_L_law_1097 5 rfl) rfl ?_
  have h := h.2
  refine mx_aload_n 3 (mx_da t_L_law_1097 6 rfl) rfl rfl rfl rfl ?_
  refine mx_callSX yL_file m_L_file [.ref 1, .int ((mx_scr M).2 (v4 + 1).toNatClampNeg), .ref 98] mm_L_file ml_RL_160 st_L_file rfl (Nat.le_of_ble_eq_true rfl) (mx_da t_L_law_1097 7 rfl) rfl (Nat.le_of_ble_eq_true rfl) rfl ?_
  refine mx_mono h ?_
  intro o M1 ho
  obtain ⟨T1, x2, rfl, h⟩ := ho
  refine ⟨T1.1.trans T.1.symm, ?_⟩
  have T := T1
  clear T1
  show mx_W m_L_law (d + 1) 1108 [.retAddr 1, .ref 1, .ref 58, .ref 98, .int v4, .retAddr 0, .retAddr 0] [.int x2] M1 Q
  refine mx_istore 5 [.retAddr 1, .ref 1, .ref 58, .ref 98, .int v4, .int x2, .retAddr 0] (mx_da t_L_law_1097 8 rfl) rfl (by decide) rfl ?_
  refine mx_aload_n 2 (mx_da t_L_law_1097 9 rfl) rfl rfl rfl rfl ?_
  refine mx_aload_n 0 (mx_da t_L_law_1097 10 rfl) rfl rfl rfl rfl ?_
  refine mx_iload 4 (mx_da t_L_law_1097 11 rfl) rfl rfl ?_
  refine mx_iconst (v := 1) (mx_da t_L_law_1097 12 rfl) rfl rfl ?_
  refine mx_iadd (mx_da t_L_law_1097 13 rfl) rfl ?_
  refine mx_sld h.1 (mx_da t_L_law_1097 14 rfl) rfl ?_
  have h := h.2
  refine mx_callV yX11_file m_X11_file [.int ((mx_scr M1).2 (v4 + 1).toNatClampNeg)] mm_X11_file ml_RL_162 im_X11_file se_X11_file (tp_s T 58 rfl) rfl rfl (Nat.le_of_ble_eq_true rfl) (mx_da t_L_law_1097 15 rfl) rfl (Nat.le_of_ble_eq_true rfl) rfl ?_
  refine mx_mono h ?_
  intro o M3 ho
  obtain ⟨T1, x4, rfl, h⟩ := ho
  refine ⟨T1.1.trans T.1.symm, ?_⟩
  have T := T1
  clear T1
  show mx_W m_L_law (d + 1) 1120 [.retAddr 1, .ref 1, .ref 58, .ref 98, .int v4, .int x2, .retAddr 0] [.int x4] M3 Q
  refine mx_istore 6 [.retAddr 1, .ref 1, .ref 58, .ref 98, .int v4, .int x2, .int x4] (mx_da t_L_law_1097 16 rfl) rfl (by decide) rfl ?_
  refine mx_aload_n 2 (mx_da t_L_law_1097 17 rfl) rfl rfl rfl rfl ?_
  refine mx_callV yX11_thrown m_X11_thrown [] mm_X11_thrown ml_RL_117 im_X11_thrown se_X11_thrown (tp_s T 58 rfl) rfl rfl (Nat.le_of_ble_eq_true rfl) (mx_da t_L_law_1097 18 rfl) rfl (Nat.le_of_ble_eq_true rfl) rfl ?_
  refine mx_mono h ?_
  intro o M5 ho
  obtain ⟨T1, x6, rfl, h⟩ := ho
  refine ⟨T1.1.trans T.1.symm, ?_⟩
  have T := T1
  clear T1
  show mx_W m_L_law (d + 1) 1126 [.retAddr 1, .ref 1, .ref 58, .ref 98, .int v4, .int x2, .int x4] [.int x6] M5 Q
  refine mx_iload 5 (mx_da t_L_law_1097 19 rfl) rfl rfl ?_
  refine mx_icmp_eq 1133 (mx_da t_L_law_1097 20 rfl) rfl rfl (fun g9 => ?_) (fun g9 => ?_)
  · have h := h.1 g9
    refine mx_iload 5 (mx_da t_L_law_1097 23 rfl) rfl rfl ?_
    refine mx_if_ne 1150 (mx_da t_L_law_1097 24 rfl) rfl rfl (fun g9 => ?_) (fun g9 => ?_)
    · have h := h.1 g9
      refine mx_goto (n := 2312) (mx_da t_L_law_1097 34 rfl) rfl ?_
      exact mx_wkn [.retAddr 1, .ref 1, .ref 58, .ref 98, .int v4, .retAddr 0, .retAddr 0] ⟨Or.inr rfl, Or.inr rfl, Or.inr rfl, Or.inr rfl, Or.inr rfl, Or.inl rfl, Or.inl rfl, trivial⟩ h
    · have h := h.2 g9
      refine mx_aload_n 3 (mx_da t_L_law_1097 25 rfl) rfl rfl rfl rfl ?_
      refine mx_iconst (v := 0) (mx_da t_L_law_1097 26 rfl) rfl rfl ?_
      refine mx_lald (tp_s T 98 rfl) (mx_vin rfl) (mx_da t_L_law_1097 27 rfl) rfl ?_
      refine mx_iload 6 (mx_da t_L_law_1097 28 rfl) rfl rfl ?_
      refine mx_i2l (mx_da t_L_law_1097 29 rfl) rfl ?_
      refine mx_lcmp (mx_da t_L_law_1097 30 rfl) rfl ?_
      refine mx_if_eq 1150 (mx_da t_L_law_1097 31 rfl) rfl rfl (fun g9 => ?_) (fun g9 => ?_)
      · have h := h.1 (mx_lc0.mp g9)
        refine mx_goto (n := 2312) (mx_da t_L_law_1097 34 rfl) rfl ?_
        exact mx_wkn [.retAddr 1, .ref 1, .ref 58, .ref 98, .int v4, .retAddr 0, .retAddr 0] ⟨Or.inr rfl, Or.inr rfl, Or.inr rfl, Or.inr rfl, Or.inr rfl, Or.inl rfl, Or.inl rfl, trivial⟩ h
      · have h := h.2 (mx_lcn.mp g9)
        refine mx_iconst (v := 0) (mx_da t_L_law_1097 32 rfl) rfl rfl ?_
        exact mx_zret rfl rfl (mx_da t_L_law_1097 33 rfl) h
  · have h := h.2 g9
    refine mx_iconst (v := 0) (mx_da t_L_law_1097 21 rfl) rfl rfl ?_
    exact mx_zret rfl rfl (mx_da t_L_law_1097 22 rfl) h
set_option maxHeartbeats 4000000 in
theorem x_L_law_1153 {d : Nat} {M : mx_M} {Q : mx_O → mx_M → Prop} (T : mx_Tp M) (v4 : Int32)
    (h : (mx_W m_X10_undo d 0 [.ref 1] [] M (fun o M1 => mx_Tp M1 ∧ (∃ x2 : Int32, o = .inl (some (.int x2)) ∧ (mx_W m_X11_undo d 0 [.ref 58, .retAddr 0] [] M1 (fun o M3 => mx_Tp M3 ∧ (∃ x4 : Int32, o = .inl (some (.int x4)) ∧ ((x2 = x4 → mx_W m_L_law (d + 1) 2312 [.retAddr 1, .ref 1, .ref 58, .ref 98, .int v4, .retAddr 0, .retAddr 0] [] M3 Q) ∧ (¬ x2 = x4 → Q (.inl (some (.int (mx_b false)))) M3))))))))) :
    mx_W m_L_law (d + 1) 1153 [.retAddr 1, .ref 1, .ref 58, .ref 98, .int v4, .retAddr 0, .retAddr 0] [] M Q := by
  refine mx_aload_n 1 (mx_da t_L_law_1153 0 rfl) rfl rfl rfl rfl ?_
  refine mx_callV yX10_undo m_X10_undo [] mm_X10_undo ml_RL_163 im_X10_undo se_X10_undo (tp_s T 1 rfl) rfl rfl (Nat.le_of_ble_eq_true rfl) (mx_da t_L_law_1153 1 rfl) rfl (Nat.le_of_ble_eq_true rfl) rfl ?_
  refine mx_mono h ?_
  intro o M1 ho
  obtain ⟨T1, x2, rfl, h⟩ := ho
  refine ⟨T1.1.trans T.1.symm, ?_⟩
  have T := T1
  clear T1
  show mx_W m_L_law (d + 1) 1157 [.retAddr 1, .ref 1, .ref 58, .ref 98, .int v4, .retAddr 0, .retAddr 0] [.int x2] M1 Q
  refine mx_aload_n 2 (mx_da t_L_law_1153 2 rfl) rfl rfl rfl rfl ?_
  refine mx_callV yX11_undo m_X11_undo [] mm_X11_undo ml_RL_166 im_X11_undo se_X11_undo (tp_s T 58 rfl) rfl rfl (Nat.le_of_ble_eq_true rfl) (mx_da t_L_law_1153 3 rfl) rfl (Nat.le_of_ble_eq_true rfl) rfl ?_
  refine mx_mono h ?_
  intro o M3 ho
  obtain ⟨T1, x4, rfl, h⟩ := ho
  refine ⟨T1.1.trans T.1.symm, ?_⟩
  have T := T1
  clear T1
  show mx_W m_L_law (d + 1) 1161 [.retAddr 1, .ref 1, .ref 58, .ref 98, .int v4, .retAddr 0, .retAddr 0] [.int x4, .int x2] M3 Q
  refine mx_icmp_eq 2312 (mx_da t_L_law_1153 4 rfl) rfl rfl (fun g9 => ?_) (fun g9 => ?_)
  · have h := h.1 g9
    exact h
  · have h := h.2 g9
    refine mx_iconst (v := 0) (mx_da t_L_law_1153 5 rfl) rfl rfl ?_
    exact mx_zret rfl rfl (mx_da t_L_law_1153 6 rfl) h
set_option maxHeartbeats 4000000 in
theorem x_L_law_1166 {d : Nat} {M : mx_M} {Q : mx_O → mx_M → Prop} (T : mx_Tp M) (v4 : Int32)
    (h : (vp_in (v4 + 1) (mx_scr M).1 ∧ (vp_in (v4 + 2) (mx_scr M).1 ∧ (vp_in (v4 + 3) (mx_scr M).1 ∧ (mx_W m_L_differ d 0 [.ref 1, .int ((mx_scr M).2 (v4 + 1).toNatClampNeg), .int ((mx_scr M).2 (v4 + 2).toNatClampNeg), .int ((mx_scr M).2 (v4 + 3).toNatClampNeg), .ref 98, .retAddr 0] [] M (fun o M1 => mx_Tp M1 ∧ (∃ x2 : Int32, o = .inl (some (.int x2)) ∧ (vp_in (v4 + 1) (mx_scr M1).1 ∧ (vp_in (v4 + 2) (mx_scr M1).1 ∧ (vp_in (v4 + 3) (mx_scr M1).1 ∧ (mx_W m_X11_differ d 0 [.ref 58, .int ((mx_scr M1).2 (v4 + 1).toNatClampNeg), .int ((mx_scr M1).2 (v4 + 2).toNatClampNeg), .int ((mx_scr M1).2 (v4 + 3).toNatClampNeg), .retAddr 0, .retAddr 0, .retAddr 0, .retAddr 0] [] M1 (fun o M3 => mx_Tp M3 ∧ (∃ x4 : Int32, o = .inl (some (.int x4)) ∧ (mx_W m_X11_thrown d 0 [.ref 58] [] M3 (fun o M5 => mx_Tp M5 ∧ (∃ x6 : Int32, o = .inl (some (.int x6)) ∧ ((x6 = x2 → ((¬ x2 = 0 → mx_W m_L_law (d + 1) 2312 [.retAddr 1, .ref 1, .ref 58, .ref 98, .int v4, .retAddr 0, .retAddr 0] [] M5 Q) ∧ (x2 = 0 → ((mx_J M5 98 0 = x4.toInt64 → mx_W m_L_law (d + 1) 2312 [.retAddr 1, .ref 1, .ref 58, .ref 98, .int v4, .retAddr 0, .retAddr 0] [] M5 Q) ∧ (¬ mx_J M5 98 0 = x4.toInt64 → Q (.inl (some (.int (mx_b false)))) M5))))) ∧ (¬ x6 = x2 → Q (.inl (some (.int (mx_b false)))) M5)))))))))))))))))) :
    mx_W m_L_law (d + 1) 1166 [.retAddr 1, .ref 1, .ref 58, .ref 98, .int v4, .retAddr 0, .retAddr 0] [] M Q := by
  refine mx_aload_n 1 (mx_da t_L_law_1166 0 rfl) rfl rfl rfl rfl ?_
  refine mx_aload_n 0 (mx_da t_L_law_1166 1 rfl) rfl rfl rfl rfl ?_
  refine mx_iload 4 (mx_da t_L_law_1166 2 rfl) rfl rfl ?_
  refine mx_iconst (v := 1) (mx_da t_L_law_1166 3 rfl) rfl rfl ?_
  refine mx_iadd (mx_da t_L_law_1166 4 rfl) rfl ?_
  refine mx_sld h.1 (mx_da t_L_law_1166 5 rfl) rfl ?_
  have h := h.2
  refine mx_aload_n 0 (mx_da t_L_law_1166 6 rfl) rfl rfl rfl rfl ?_
  refine mx_iload 4 (mx_da t_L_law_1166 7 rfl) rfl rfl ?_
  refine mx_iconst (v := 2) (mx_da t_L_law_1166 8 rfl) rfl rfl ?_
  refine mx_iadd (mx_da t_L_law_1166 9 rfl) rfl ?_
  refine mx_sld h.1 (mx_da t_L_law_1166 10 rfl) rfl ?_
  have h := h.2
  refine mx_aload_n 0 (mx_da t_L_law_1166 11 rfl) rfl rfl rfl rfl ?_
  refine mx_iload 4 (mx_da t_L_law_1166 12 rfl) rfl rfl ?_
  refine mx_iconst (v := 3) (mx_da t_L_law_1166 13 rfl) rfl rfl ?_
  refine mx_iadd (mx_da t_L_law_1166 14 rfl) rfl ?_
  refine mx_sld h.1 (mx_da t_L_law_1166 15 rfl) rfl ?_
  have h := h.2
  refine mx_aload_n 3 (mx_da t_L_law_1166 16 rfl) rfl rfl rfl rfl ?_
  refine mx_callSX yL_differ m_L_differ [.ref 1, .int ((mx_scr M).2 (v4 + 1).toNatClampNeg), .int ((mx_scr M).2 (v4 + 2).toNatClampNeg), .int ((mx_scr M).2 (v4 + 3).toNatClampNeg), .ref 98] mm_L_differ ml_RL_167 st_L_differ rfl (Nat.le_of_ble_eq_true rfl) (mx_da t_L_law_1166 17 rfl) rfl (Nat.le_of_ble_eq_true rfl) rfl ?_
  refine mx_mono h ?_
  intro o M1 ho
  obtain ⟨T1, x2, rfl, h⟩ := ho
  refine ⟨T1.1.trans T.1.symm, ?_⟩
  have T := T1
  clear T1
  show mx_W m_L_law (d + 1) 1189 [.retAddr 1, .ref 1, .ref 58, .ref 98, .int v4, .retAddr 0, .retAddr 0] [.int x2] M1 Q
  refine mx_istore 5 [.retAddr 1, .ref 1, .ref 58, .ref 98, .int v4, .int x2, .retAddr 0] (mx_da t_L_law_1166 18 rfl) rfl (by decide) rfl ?_
  refine mx_aload_n 2 (mx_da t_L_law_1166 19 rfl) rfl rfl rfl rfl ?_
  refine mx_aload_n 0 (mx_da t_L_law_1166 20 rfl) rfl rfl rfl rfl ?_
  refine mx_iload 4 (mx_da t_L_law_1166 21 rfl) rfl rfl ?_
  refine mx_iconst (v := 1) (mx_da t_L_law_1166 22 rfl) rfl rfl ?_
  refine mx_iadd (mx_da t_L_law_1166 23 rfl) rfl ?_
  refine mx_sld h.1 (mx_da t_L_law_1166 24 rfl) rfl ?_
  have h := h.2
  refine mx_aload_n 0 (mx_da t_L_law_1166 25 rfl) rfl rfl rfl rfl ?_
  refine mx_iload 4 (mx_da t_L_law_1166 26 rfl) rfl rfl ?_
  refine mx_iconst (v := 2) (mx_da t_L_law_1166 27 rfl) rfl rfl ?_
  refine mx_iadd (mx_da t_L_law_1166 28 rfl) rfl ?_
  refine mx_sld h.1 (mx_da t_L_law_1166 29 rfl) rfl ?_
  have h := h.2
  refine mx_aload_n 0 (mx_da t_L_law_1166 30 rfl) rfl rfl rfl rfl ?_
  refine mx_iload 4 (mx_da t_L_law_1166 31 rfl) rfl rfl ?_
  refine mx_iconst (v := 3) (mx_da t_L_law_1166 32 rfl) rfl rfl ?_
  refine mx_iadd (mx_da t_L_law_1166 33 rfl) rfl ?_
  refine mx_sld h.1 (mx_da t_L_law_1166 34 rfl) rfl ?_
  have h := h.2
  refine mx_callV yX11_differ m_X11_differ [.int ((mx_scr M1).2 (v4 + 1).toNatClampNeg), .int ((mx_scr M1).2 (v4 + 2).toNatClampNeg), .int ((mx_scr M1).2 (v4 + 3).toNatClampNeg)] mm_X11_differ ml_RL_169 im_X11_differ se_X11_differ (tp_s T 58 rfl) rfl rfl (Nat.le_of_ble_eq_true rfl) (mx_da t_L_law_1166 35 rfl) rfl (Nat.le_of_ble_eq_true rfl) rfl ?_
  refine mx_mono h ?_
  intro o M3 ho
  obtain ⟨T1, x4, rfl, h⟩ := ho
  refine ⟨T1.1.trans T.1.symm, ?_⟩
  have T := T1
  clear T1
  show mx_W m_L_law (d + 1) 1213 [.retAddr 1, .ref 1, .ref 58, .ref 98, .int v4, .int x2, .retAddr 0] [.int x4] M3 Q
  refine mx_istore 6 [.retAddr 1, .ref 1, .ref 58, .ref 98, .int v4, .int x2, .int x4] (mx_da t_L_law_1166 36 rfl) rfl (by decide) rfl ?_
  refine mx_aload_n 2 (mx_da t_L_law_1166 37 rfl) rfl rfl rfl rfl ?_
  refine mx_callV yX11_thrown m_X11_thrown [] mm_X11_thrown ml_RL_117 im_X11_thrown se_X11_thrown (tp_s T 58 rfl) rfl rfl (Nat.le_of_ble_eq_true rfl) (mx_da t_L_law_1166 38 rfl) rfl (Nat.le_of_ble_eq_true rfl) rfl ?_
  refine mx_mono h ?_
  intro o M5 ho
  obtain ⟨T1, x6, rfl, h⟩ := ho
  refine ⟨T1.1.trans T.1.symm, ?_⟩
  have T := T1
  clear T1
  show mx_W m_L_law (d + 1) 1219 [.retAddr 1, .ref 1, .ref 58, .ref 98, .int v4, .int x2, .int x4] [.int x6] M5 Q
  refine mx_iload 5 (mx_da t_L_law_1166 39 rfl) rfl rfl ?_
  refine mx_icmp_eq 1226 (mx_da t_L_law_1166 40 rfl) rfl rfl (fun g9 => ?_) (fun g9 => ?_)
  · have h := h.1 g9
    refine mx_iload 5 (mx_da t_L_law_1166 43 rfl) rfl rfl ?_
    refine mx_if_ne 1243 (mx_da t_L_law_1166 44 rfl) rfl rfl (fun g9 => ?_) (fun g9 => ?_)
    · have h := h.1 g9
      refine mx_goto (n := 2312) (mx_da t_L_law_1166 54 rfl) rfl ?_
      exact mx_wkn [.retAddr 1, .ref 1, .ref 58, .ref 98, .int v4, .retAddr 0, .retAddr 0] ⟨Or.inr rfl, Or.inr rfl, Or.inr rfl, Or.inr rfl, Or.inr rfl, Or.inl rfl, Or.inl rfl, trivial⟩ h
    · have h := h.2 g9
      refine mx_aload_n 3 (mx_da t_L_law_1166 45 rfl) rfl rfl rfl rfl ?_
      refine mx_iconst (v := 0) (mx_da t_L_law_1166 46 rfl) rfl rfl ?_
      refine mx_lald (tp_s T 98 rfl) (mx_vin rfl) (mx_da t_L_law_1166 47 rfl) rfl ?_
      refine mx_iload 6 (mx_da t_L_law_1166 48 rfl) rfl rfl ?_
      refine mx_i2l (mx_da t_L_law_1166 49 rfl) rfl ?_
      refine mx_lcmp (mx_da t_L_law_1166 50 rfl) rfl ?_
      refine mx_if_eq 1243 (mx_da t_L_law_1166 51 rfl) rfl rfl (fun g9 => ?_) (fun g9 => ?_)
      · have h := h.1 (mx_lc0.mp g9)
        refine mx_goto (n := 2312) (mx_da t_L_law_1166 54 rfl) rfl ?_
        exact mx_wkn [.retAddr 1, .ref 1, .ref 58, .ref 98, .int v4, .retAddr 0, .retAddr 0] ⟨Or.inr rfl, Or.inr rfl, Or.inr rfl, Or.inr rfl, Or.inr rfl, Or.inl rfl, Or.inl rfl, trivial⟩ h
      · have h := h.2 (mx_lcn.mp g9)
        refine mx_iconst (v := 0) (mx_da t_L_law_1166 52 rfl) rfl rfl ?_
        exact mx_zret rfl rfl (mx_da t_L_law_1166 53 rfl) h
  · have h := h.2 g9
    refine mx_iconst (v := 0) (mx_da t_L_law_1166 41 rfl) rfl rfl ?_
    exact mx_zret rfl rfl (mx_da t_L_law_1166 42 rfl) h
set_option maxHeartbeats 4000000 in
theorem x_L_law_1246 {d : Nat} {M : mx_M} {Q : mx_O → mx_M → Prop} (T : mx_Tp M) (v4 : Int32)
    (h : (vp_in (v4 + 1) (mx_scr M).1 ∧ (vp_in (v4 + 2) (mx_scr M).1 ∧ (mx_W m_L_votes d 0 [.ref 1, .int ((mx_scr M).2 (v4 + 1).toNatClampNeg), .int ((mx_scr M).2 (v4 + 2).toNatClampNeg), .ref 98, .retAddr 0] [] M (fun o M1 => mx_Tp M1 ∧ (∃ x2 : Int32, o = .inl (some (.int x2)) ∧ (vp_in (v4 + 1) (mx_scr M1).1 ∧ (vp_in (v4 + 2) (mx_scr M1).1 ∧ (mx_W m_X11_votes d 0 [.ref 58, .int ((mx_scr M1).2 (v4 + 1).toNatClampNeg), .int ((mx_scr M1).2 (v4 + 2).toNatClampNeg)] [] M1 (fun o M3 => mx_Tp M3 ∧ (∃ x4 : Int32, o = .inl (some (.int x4)) ∧ (mx_W m_X11_thrown d 0 [.ref 58] [] M3 (fun o M5 => mx_Tp M5 ∧ (∃ x6 : Int32, o = .inl (some (.int x6)) ∧ ((x6 = x2 → ((¬ x2 = 0 → mx_W m_L_law (d + 1) 2312 [.retAddr 1, .ref 1, .ref 58, .ref 98, .int v4, .retAddr 0, .retAddr 0] [] M5 Q) ∧ (x2 = 0 → ((mx_J M5 98 0 = x4.toInt64 → mx_W m_L_law (d + 1) 2312 [.retAddr 1, .ref 1, .ref 58, .ref 98, .int v4, .retAddr 0, .retAddr 0] [] M5 Q) ∧ (¬ mx_J M5 98 0 = x4.toInt64 → Q (.inl (some (.int (mx_b false)))) M5))))) ∧ (¬ x6 = x2 → Q (.inl (some (.int (mx_b false)))) M5)))))))))))))))) :
    mx_W m_L_law (d + 1) 1246 [.retAddr 1, .ref 1, .ref 58, .ref 98, .int v4, .retAddr 0, .retAddr 0] [] M Q := by
  refine mx_aload_n 1 (mx_da t_L_law_1246 0 rfl) rfl rfl rfl rfl ?_
  refine mx_aload_n 0 (mx_da t_L_law_1246 1 rfl) rfl rfl rfl rfl ?_
  refine mx_iload 4 (mx_da t_L_law_1246 2 rfl) rfl rfl ?_
  refine mx_iconst (v := 1) (mx_da t_L_law_1246 3 rfl) rfl rfl ?_
  refine mx_iadd (mx_da t_L_law_1246 4 rfl) rfl ?_
  refine mx_sld h.1 (mx_da t_L_law_1246 5 rfl) rfl ?_
  have h := h.2
  refine mx_aload_n 0 (mx_da t_L_law_1246 6 rfl) rfl rfl rfl rfl ?_
  refine mx_iload 4 (mx_da t_L_law_1246 7 rfl) rfl rfl ?_
  refine mx_iconst (v := 2) (mx_da t_L_law_1246 8 rfl) rfl rfl ?_
  refine mx_iadd (mx_da t_L_law_1246 9 rfl) rfl ?_
  refine mx_sld h.1 (mx_da t_L_law_1246 10 rfl) rfl ?_
  have h := h.2
  refine mx_aload_n 3 (mx_da t_L_law_1246 11 rfl) rfl rfl rfl rfl ?_
  refine mx_callSX yL_votes m_L_votes [.ref 1, .int ((mx_scr M).2 (v4 + 1).toNatClampNeg), .int ((mx_scr M).2 (v4 + 2).toNatClampNeg), .ref 98] mm_L_votes ml_RL_170 st_L_votes rfl (Nat.le_of_ble_eq_true rfl) (mx_da t_L_law_1246 12 rfl) rfl (Nat.le_of_ble_eq_true rfl) rfl ?_
  refine mx_mono h ?_
  intro o M1 ho
  obtain ⟨T1, x2, rfl, h⟩ := ho
  refine ⟨T1.1.trans T.1.symm, ?_⟩
  have T := T1
  clear T1
  show mx_W m_L_law (d + 1) 1263 [.retAddr 1, .ref 1, .ref 58, .ref 98, .int v4, .retAddr 0, .retAddr 0] [.int x2] M1 Q
  refine mx_istore 5 [.retAddr 1, .ref 1, .ref 58, .ref 98, .int v4, .int x2, .retAddr 0] (mx_da t_L_law_1246 13 rfl) rfl (by decide) rfl ?_
  refine mx_aload_n 2 (mx_da t_L_law_1246 14 rfl) rfl rfl rfl rfl ?_
  refine mx_aload_n 0 (mx_da t_L_law_1246 15 rfl) rfl rfl rfl rfl ?_
  refine mx_iload 4 (mx_da t_L_law_1246 16 rfl) rfl rfl ?_
  refine mx_iconst (v := 1) (mx_da t_L_law_1246 17 rfl) rfl rfl ?_
  refine mx_iadd (mx_da t_L_law_1246 18 rfl) rfl ?_
  refine mx_sld h.1 (mx_da t_L_law_1246 19 rfl) rfl ?_
  have h := h.2
  refine mx_aload_n 0 (mx_da t_L_law_1246 20 rfl) rfl rfl rfl rfl ?_
  refine mx_iload 4 (mx_da t_L_law_1246 21 rfl) rfl rfl ?_
  refine mx_iconst (v := 2) (mx_da t_L_law_1246 22 rfl) rfl rfl ?_
  refine mx_iadd (mx_da t_L_law_1246 23 rfl) rfl ?_
  refine mx_sld h.1 (mx_da t_L_law_1246 24 rfl) rfl ?_
  have h := h.2
  refine mx_callV yX11_votes m_X11_votes [.int ((mx_scr M1).2 (v4 + 1).toNatClampNeg), .int ((mx_scr M1).2 (v4 + 2).toNatClampNeg)] mm_X11_votes ml_RL_172 im_X11_votes se_X11_votes (tp_s T 58 rfl) rfl rfl (Nat.le_of_ble_eq_true rfl) (mx_da t_L_law_1246 25 rfl) rfl (Nat.le_of_ble_eq_true rfl) rfl ?_
  refine mx_mono h ?_
  intro o M3 ho
  obtain ⟨T1, x4, rfl, h⟩ := ho
  refine ⟨T1.1.trans T.1.symm, ?_⟩
  have T := T1
  clear T1
  show mx_W m_L_law (d + 1) 1281 [.retAddr 1, .ref 1, .ref 58, .ref 98, .int v4, .int x2, .retAddr 0] [.int x4] M3 Q
  refine mx_istore 6 [.retAddr 1, .ref 1, .ref 58, .ref 98, .int v4, .int x2, .int x4] (mx_da t_L_law_1246 26 rfl) rfl (by decide) rfl ?_
  refine mx_aload_n 2 (mx_da t_L_law_1246 27 rfl) rfl rfl rfl rfl ?_
  refine mx_callV yX11_thrown m_X11_thrown [] mm_X11_thrown ml_RL_117 im_X11_thrown se_X11_thrown (tp_s T 58 rfl) rfl rfl (Nat.le_of_ble_eq_true rfl) (mx_da t_L_law_1246 28 rfl) rfl (Nat.le_of_ble_eq_true rfl) rfl ?_
  refine mx_mono h ?_
  intro o M5 ho
  obtain ⟨T1, x6, rfl, h⟩ := ho
  refine ⟨T1.1.trans T.1.symm, ?_⟩
  have T := T1
  clear T1
  show mx_W m_L_law (d + 1) 1287 [.retAddr 1, .ref 1, .ref 58, .ref 98, .int v4, .int x2, .int x4] [.int x6] M5 Q
  refine mx_iload 5 (mx_da t_L_law_1246 29 rfl) rfl rfl ?_
  refine mx_icmp_eq 1294 (mx_da t_L_law_1246 30 rfl) rfl rfl (fun g9 => ?_) (fun g9 => ?_)
  · have h := h.1 g9
    refine mx_iload 5 (mx_da t_L_law_1246 33 rfl) rfl rfl ?_
    refine mx_if_ne 1311 (mx_da t_L_law_1246 34 rfl) rfl rfl (fun g9 => ?_) (fun g9 => ?_)
    · have h := h.1 g9
      refine mx_goto (n := 2312) (mx_da t_L_law_1246 44 rfl) rfl ?_
      exact mx_wkn [.retAddr 1, .ref 1, .ref 58, .ref 98, .int v4, .retAddr 0, .retAddr 0] ⟨Or.inr rfl, Or.inr rfl, Or.inr rfl, Or.inr rfl, Or.inr rfl, Or.inl rfl, Or.inl rfl, trivial⟩ h
    · have h := h.2 g9
      refine mx_aload_n 3 (mx_da t_L_law_1246 35 rfl) rfl rfl rfl rfl ?_
      refine mx_iconst (v := 0) (mx_da t_L_law_1246 36 rfl) rfl rfl ?_
      refine mx_lald (tp_s T 98 rfl) (mx_vin rfl) (mx_da t_L_law_1246 37 rfl) rfl ?_
      refine mx_iload 6 (mx_da t_L_law_1246 38 rfl) rfl rfl ?_
      refine mx_i2l (mx_da t_L_law_1246 39 rfl) rfl ?_
      refine mx_lcmp (mx_da t_L_law_1246 40 rfl) rfl ?_
      refine mx_if_eq 1311 (mx_da t_L_law_1246 41 rfl) rfl rfl (fun g9 => ?_) (fun g9 => ?_)
      · have h := h.1 (mx_lc0.mp g9)
        refine mx_goto (n := 2312) (mx_da t_L_law_1246 44 rfl) rfl ?_
        exact mx_wkn [.retAddr 1, .ref 1, .ref 58, .ref 98, .int v4, .retAddr 0, .retAddr 0] ⟨Or.inr rfl, Or.inr rfl, Or.inr rfl, Or.inr rfl, Or.inr rfl, Or.inl rfl, Or.inl rfl, trivial⟩ h
      · have h := h.2 (mx_lcn.mp g9)
        refine mx_iconst (v := 0) (mx_da t_L_law_1246 42 rfl) rfl rfl ?_
        exact mx_zret rfl rfl (mx_da t_L_law_1246 43 rfl) h
  · have h := h.2 g9
    refine mx_iconst (v := 0) (mx_da t_L_law_1246 31 rfl) rfl rfl ?_
    exact mx_zret rfl rfl (mx_da t_L_law_1246 32 rfl) h
set_option maxHeartbeats 4000000 in
theorem x_L_law_1314 {d : Nat} {M : mx_M} {Q : mx_O → mx_M → Prop} (T : mx_Tp M) (v4 : Int32)
    (h : (mx_W m_X10_ring d 0 [.ref 1, .retAddr 0, .retAddr 0, .retAddr 0] [] M (fun o M1 => mx_Tp M1 ∧ (∃ x2 : Int32, o = .inl (some (.int x2)) ∧ (mx_W m_X11_ring d 0 [.ref 58, .retAddr 0, .retAddr 0, .retAddr 0] [] M1 (fun o M3 => mx_Tp M3 ∧ (∃ x4 : Int32, o = .inl (some (.int x4)) ∧ ((x2 = x4 → mx_W m_L_law (d + 1) 2312 [.retAddr 1, .ref 1, .ref 58, .ref 98, .int v4, .retAddr 0, .retAddr 0] [] M3 Q) ∧ (¬ x2 = x4 → Q (.inl (some (.int (mx_b false)))) M3))))))))) :
    mx_W m_L_law (d + 1) 1314 [.retAddr 1, .ref 1, .ref 58, .ref 98, .int v4, .retAddr 0, .retAddr 0] [] M Q := by
  refine mx_aload_n 1 (mx_da t_L_law_1314 0 rfl) rfl rfl rfl rfl ?_
  refine mx_callV yX10_ring m_X10_ring [] mm_X10_ring ml_RL_173 im_X10_ring se_X10_ring (tp_s T 1 rfl) rfl rfl (Nat.le_of_ble_eq_true rfl) (mx_da t_L_law_1314 1 rfl) rfl (Nat.le_of_ble_eq_true rfl) rfl ?_
  refine mx_mono h ?_
  intro o M1 ho
  obtain ⟨T1, x2, rfl, h⟩ := ho
  refine ⟨T1.1.trans T.1.symm, ?_⟩
  have T := T1
  clear T1
  show mx_W m_L_law (d + 1) 1318 [.retAddr 1, .ref 1, .ref 58, .ref 98, .int v4, .retAddr 0, .retAddr 0] [.int x2] M1 Q
  refine mx_aload_n 2 (mx_da t_L_law_1314 2 rfl) rfl rfl rfl rfl ?_
  refine mx_callV yX11_ring m_X11_ring [] mm_X11_ring ml_RL_176 im_X11_ring se_X11_ring (tp_s T 58 rfl) rfl rfl (Nat.le_of_ble_eq_true rfl) (mx_da t_L_law_1314 3 rfl) rfl (Nat.le_of_ble_eq_true rfl) rfl ?_
  refine mx_mono h ?_
  intro o M3 ho
  obtain ⟨T1, x4, rfl, h⟩ := ho
  refine ⟨T1.1.trans T.1.symm, ?_⟩
  have T := T1
  clear T1
  show mx_W m_L_law (d + 1) 1322 [.retAddr 1, .ref 1, .ref 58, .ref 98, .int v4, .retAddr 0, .retAddr 0] [.int x4, .int x2] M3 Q
  refine mx_icmp_eq 2312 (mx_da t_L_law_1314 4 rfl) rfl rfl (fun g9 => ?_) (fun g9 => ?_)
  · have h := h.1 g9
    exact h
  · have h := h.2 g9
    refine mx_iconst (v := 0) (mx_da t_L_law_1314 5 rfl) rfl rfl ?_
    exact mx_zret rfl rfl (mx_da t_L_law_1314 6 rfl) h
set_option maxHeartbeats 4000000 in
theorem x_L_law_1327 {d : Nat} {M : mx_M} {Q : mx_O → mx_M → Prop} (T : mx_Tp M) (v4 : Int32)
    (h : (mx_W m_X10_head d 0 [.ref 1, .retAddr 0] [] M (fun o M1 => mx_Tp M1 ∧ (∃ x2 : Int32, o = .inl (some (.int x2)) ∧ (mx_W m_X11_head d 0 [.ref 58, .retAddr 0, .retAddr 0, .retAddr 0] [] M1 (fun o M3 => mx_Tp M3 ∧ (∃ x4 : Int32, o = .inl (some (.int x4)) ∧ ((x2 = x4 → mx_W m_L_law (d + 1) 2312 [.retAddr 1, .ref 1, .ref 58, .ref 98, .int v4, .retAddr 0, .retAddr 0] [] M3 Q) ∧ (¬ x2 = x4 → Q (.inl (some (.int (mx_b false)))) M3))))))))) :
    mx_W m_L_law (d + 1) 1327 [.retAddr 1, .ref 1, .ref 58, .ref 98, .int v4, .retAddr 0, .retAddr 0] [] M Q := by
  refine mx_aload_n 1 (mx_da t_L_law_1327 0 rfl) rfl rfl rfl rfl ?_
  refine mx_callV yX10_head m_X10_head [] mm_X10_head ml_RL_177 im_X10_head se_X10_head (tp_s T 1 rfl) rfl rfl (Nat.le_of_ble_eq_true rfl) (mx_da t_L_law_1327 1 rfl) rfl (Nat.le_of_ble_eq_true rfl) rfl ?_
  refine mx_mono h ?_
  intro o M1 ho
  obtain ⟨T1, x2, rfl, h⟩ := ho
  refine ⟨T1.1.trans T.1.symm, ?_⟩
  have T := T1
  clear T1
  show mx_W m_L_law (d + 1) 1331 [.retAddr 1, .ref 1, .ref 58, .ref 98, .int v4, .retAddr 0, .retAddr 0] [.int x2] M1 Q
  refine mx_aload_n 2 (mx_da t_L_law_1327 2 rfl) rfl rfl rfl rfl ?_
  refine mx_callV yX11_head m_X11_head [] mm_X11_head ml_RL_180 im_X11_head se_X11_head (tp_s T 58 rfl) rfl rfl (Nat.le_of_ble_eq_true rfl) (mx_da t_L_law_1327 3 rfl) rfl (Nat.le_of_ble_eq_true rfl) rfl ?_
  refine mx_mono h ?_
  intro o M3 ho
  obtain ⟨T1, x4, rfl, h⟩ := ho
  refine ⟨T1.1.trans T.1.symm, ?_⟩
  have T := T1
  clear T1
  show mx_W m_L_law (d + 1) 1335 [.retAddr 1, .ref 1, .ref 58, .ref 98, .int v4, .retAddr 0, .retAddr 0] [.int x4, .int x2] M3 Q
  refine mx_icmp_eq 2312 (mx_da t_L_law_1327 4 rfl) rfl rfl (fun g9 => ?_) (fun g9 => ?_)
  · have h := h.1 g9
    exact h
  · have h := h.2 g9
    refine mx_iconst (v := 0) (mx_da t_L_law_1327 5 rfl) rfl rfl ?_
    exact mx_zret rfl rfl (mx_da t_L_law_1327 6 rfl) h
set_option maxHeartbeats 4000000 in
theorem x_L_law_1340 {d : Nat} {M : mx_M} {Q : mx_O → mx_M → Prop} (T : mx_Tp M) (v4 : Int32)
    (h : (vp_in (v4 + 1) (mx_scr M).1 ∧ (mx_W m_L_stay d 0 [.ref 1, .int ((mx_scr M).2 (v4 + 1).toNatClampNeg), .ref 98, .retAddr 0] [] M (fun o M1 => mx_Tp M1 ∧ (∃ x2 : Int32, o = .inl (some (.int x2)) ∧ (vp_in (v4 + 1) (mx_scr M1).1 ∧ (mx_W m_X11_stay d 0 [.ref 58, .int ((mx_scr M1).2 (v4 + 1).toNatClampNeg), .retAddr 0, .retAddr 0, .retAddr 0, .retAddr 0] [] M1 (fun o M3 => mx_Tp M3 ∧ (∃ x4 : Int32, o = .inl (some (.int x4)) ∧ (mx_W m_X11_thrown d 0 [.ref 58] [] M3 (fun o M5 => mx_Tp M5 ∧ (∃ x6 : Int32, o = .inl (some (.int x6)) ∧ ((x6 = x2 → ((¬ x2 = 0 → mx_W m_L_law (d + 1) 2312 [.retAddr 1, .ref 1, .ref 58, .ref 98, .int v4, .retAddr 0, .retAddr 0] [] M5 Q) ∧ (x2 = 0 → ((mx_J M5 98 0 = x4.toInt64 → mx_W m_L_law (d + 1) 2312 [.retAddr 1, .ref 1, .ref 58, .ref 98, .int v4, .retAddr 0, .retAddr 0] [] M5 Q) ∧ (¬ mx_J M5 98 0 = x4.toInt64 → Q (.inl (some (.int (mx_b false)))) M5))))) ∧ (¬ x6 = x2 → Q (.inl (some (.int (mx_b false)))) M5)))))))))))))) :
    mx_W m_L_law (d + 1) 1340 [.retAddr 1, .ref 1, .ref 58, .ref 98, .int v4, .retAddr 0, .retAddr 0] [] M Q := by
  refine mx_aload_n 1 (mx_da t_L_law_1340 0 rfl) rfl rfl rfl rfl ?_
  refine mx_aload_n 0 (mx_da t_L_law_1340 1 rfl) rfl rfl rfl rfl ?_
  refine mx_iload 4 (mx_da t_L_law_1340 2 rfl) rfl rfl ?_
  refine mx_iconst (v := 1) (mx_da t_L_law_1340 3 rfl) rfl rfl ?_
  refine mx_iadd (mx_da t_L_law_1340 4 rfl) rfl ?_
  refine mx_sld h.1 (mx_da t_L_law_1340 5 rfl) rfl ?_
  have h := h.2
  refine mx_aload_n 3 (mx_da t_L_law_1340 6 rfl) rfl rfl rfl rfl ?_
  refine mx_callSX yL_stay m_L_stay [.ref 1, .int ((mx_scr M).2 (v4 + 1).toNatClampNeg), .ref 98] mm_L_stay ml_RL_181 st_L_stay rfl (Nat.le_of_ble_eq_true rfl) (mx_da t_L_law_1340 7 rfl) rfl (Nat.le_of_ble_eq_true rfl) rfl ?_
  refine mx_mono h ?_
  intro o M1 ho
  obtain ⟨T1, x2, rfl, h⟩ := ho
  refine ⟨T1.1.trans T.1.symm, ?_⟩
  have T := T1
  clear T1
  show mx_W m_L_law (d + 1) 1351 [.retAddr 1, .ref 1, .ref 58, .ref 98, .int v4, .retAddr 0, .retAddr 0] [.int x2] M1 Q
  refine mx_istore 5 [.retAddr 1, .ref 1, .ref 58, .ref 98, .int v4, .int x2, .retAddr 0] (mx_da t_L_law_1340 8 rfl) rfl (by decide) rfl ?_
  refine mx_aload_n 2 (mx_da t_L_law_1340 9 rfl) rfl rfl rfl rfl ?_
  refine mx_aload_n 0 (mx_da t_L_law_1340 10 rfl) rfl rfl rfl rfl ?_
  refine mx_iload 4 (mx_da t_L_law_1340 11 rfl) rfl rfl ?_
  refine mx_iconst (v := 1) (mx_da t_L_law_1340 12 rfl) rfl rfl ?_
  refine mx_iadd (mx_da t_L_law_1340 13 rfl) rfl ?_
  refine mx_sld h.1 (mx_da t_L_law_1340 14 rfl) rfl ?_
  have h := h.2
  refine mx_callV yX11_stay m_X11_stay [.int ((mx_scr M1).2 (v4 + 1).toNatClampNeg)] mm_X11_stay ml_RL_183 im_X11_stay se_X11_stay (tp_s T 58 rfl) rfl rfl (Nat.le_of_ble_eq_true rfl) (mx_da t_L_law_1340 15 rfl) rfl (Nat.le_of_ble_eq_true rfl) rfl ?_
  refine mx_mono h ?_
  intro o M3 ho
  obtain ⟨T1, x4, rfl, h⟩ := ho
  refine ⟨T1.1.trans T.1.symm, ?_⟩
  have T := T1
  clear T1
  show mx_W m_L_law (d + 1) 1363 [.retAddr 1, .ref 1, .ref 58, .ref 98, .int v4, .int x2, .retAddr 0] [.int x4] M3 Q
  refine mx_istore 6 [.retAddr 1, .ref 1, .ref 58, .ref 98, .int v4, .int x2, .int x4] (mx_da t_L_law_1340 16 rfl) rfl (by decide) rfl ?_
  refine mx_aload_n 2 (mx_da t_L_law_1340 17 rfl) rfl rfl rfl rfl ?_
  refine mx_callV yX11_thrown m_X11_thrown [] mm_X11_thrown ml_RL_117 im_X11_thrown se_X11_thrown (tp_s T 58 rfl) rfl rfl (Nat.le_of_ble_eq_true rfl) (mx_da t_L_law_1340 18 rfl) rfl (Nat.le_of_ble_eq_true rfl) rfl ?_
  refine mx_mono h ?_
  intro o M5 ho
  obtain ⟨T1, x6, rfl, h⟩ := ho
  refine ⟨T1.1.trans T.1.symm, ?_⟩
  have T := T1
  clear T1
  show mx_W m_L_law (d + 1) 1369 [.retAddr 1, .ref 1, .ref 58, .ref 98, .int v4, .int x2, .int x4] [.int x6] M5 Q
  refine mx_iload 5 (mx_da t_L_law_1340 19 rfl) rfl rfl ?_
  refine mx_icmp_eq 1376 (mx_da t_L_law_1340 20 rfl) rfl rfl (fun g9 => ?_) (fun g9 => ?_)
  · have h := h.1 g9
    refine mx_iload 5 (mx_da t_L_law_1340 23 rfl) rfl rfl ?_
    refine mx_if_ne 1393 (mx_da t_L_law_1340 24 rfl) rfl rfl (fun g9 => ?_) (fun g9 => ?_)
    · have h := h.1 g9
      refine mx_goto (n := 2312) (mx_da t_L_law_1340 34 rfl) rfl ?_
      exact mx_wkn [.retAddr 1, .ref 1, .ref 58, .ref 98, .int v4, .retAddr 0, .retAddr 0] ⟨Or.inr rfl, Or.inr rfl, Or.inr rfl, Or.inr rfl, Or.inr rfl, Or.inl rfl, Or.inl rfl, trivial⟩ h
    · have h := h.2 g9
      refine mx_aload_n 3 (mx_da t_L_law_1340 25 rfl) rfl rfl rfl rfl ?_
      refine mx_iconst (v := 0) (mx_da t_L_law_1340 26 rfl) rfl rfl ?_
      refine mx_lald (tp_s T 98 rfl) (mx_vin rfl) (mx_da t_L_law_1340 27 rfl) rfl ?_
      refine mx_iload 6 (mx_da t_L_law_1340 28 rfl) rfl rfl ?_
      refine mx_i2l (mx_da t_L_law_1340 29 rfl) rfl ?_
      refine mx_lcmp (mx_da t_L_law_1340 30 rfl) rfl ?_
      refine mx_if_eq 1393 (mx_da t_L_law_1340 31 rfl) rfl rfl (fun g9 => ?_) (fun g9 => ?_)
      · have h := h.1 (mx_lc0.mp g9)
        refine mx_goto (n := 2312) (mx_da t_L_law_1340 34 rfl) rfl ?_
        exact mx_wkn [.retAddr 1, .ref 1, .ref 58, .ref 98, .int v4, .retAddr 0, .retAddr 0] ⟨Or.inr rfl, Or.inr rfl, Or.inr rfl, Or.inr rfl, Or.inr rfl, Or.inl rfl, Or.inl rfl, trivial⟩ h
      · have h := h.2 (mx_lcn.mp g9)
        refine mx_iconst (v := 0) (mx_da t_L_law_1340 32 rfl) rfl rfl ?_
        exact mx_zret rfl rfl (mx_da t_L_law_1340 33 rfl) h
  · have h := h.2 g9
    refine mx_iconst (v := 0) (mx_da t_L_law_1340 21 rfl) rfl rfl ?_
    exact mx_zret rfl rfl (mx_da t_L_law_1340 22 rfl) h
set_option maxHeartbeats 4000000 in
theorem x_L_law_1396 {d : Nat} {M : mx_M} {Q : mx_O → mx_M → Prop} (T : mx_Tp M) (v4 : Int32)
    (h : (vp_in (v4 + 1) (mx_scr M).1 ∧ (mx_W m_L_stays d 0 [.ref 1, .int ((mx_scr M).2 (v4 + 1).toNatClampNeg), .ref 98, .retAddr 0] [] M (fun o M1 => mx_Tp M1 ∧ (∃ x2 : Int32, o = .inl (some (.int x2)) ∧ (vp_in (v4 + 1) (mx_scr M1).1 ∧ (mx_W m_X11_stays d 0 [.ref 58, .int ((mx_scr M1).2 (v4 + 1).toNatClampNeg)] [] M1 (fun o M3 => mx_Tp M3 ∧ (∃ x4 : Int32, o = .inl (some (.int x4)) ∧ (mx_W m_X11_thrown d 0 [.ref 58] [] M3 (fun o M5 => mx_Tp M5 ∧ (∃ x6 : Int32, o = .inl (some (.int x6)) ∧ ((x6 = x2 → ((¬ x2 = 0 → mx_W m_L_law (d + 1) 2312 [.retAddr 1, .ref 1, .ref 58, .ref 98, .int v4, .retAddr 0, .retAddr 0] [] M5 Q) ∧ (x2 = 0 → ((mx_J M5 98 0 = x4.toInt64 → mx_W m_L_law (d + 1) 2312 [.retAddr 1, .ref 1, .ref 58, .ref 98, .int v4, .retAddr 0, .retAddr 0] [] M5 Q) ∧ (¬ mx_J M5 98 0 = x4.toInt64 → Q (.inl (some (.int (mx_b false)))) M5))))) ∧ (¬ x6 = x2 → Q (.inl (some (.int (mx_b false)))) M5)))))))))))))) :
    mx_W m_L_law (d + 1) 1396 [.retAddr 1, .ref 1, .ref 58, .ref 98, .int v4, .retAddr 0, .retAddr 0] [] M Q := by
  refine mx_aload_n 1 (mx_da t_L_law_1396 0 rfl) rfl rfl rfl rfl ?_
  refine mx_aload_n 0 (mx_da t_L_law_1396 1 rfl) rfl rfl rfl rfl ?_
  refine mx_iload 4 (mx_da t_L_law_1396 2 rfl) rfl rfl ?_
  refine mx_iconst (v := 1) (mx_da t_L_law_1396 3 rfl) rfl rfl ?_
  refine mx_iadd (mx_da t_L_law_1396 4 rfl) rfl ?_
  refine mx_sld h.1 (mx_da t_L_law_1396 5 rfl) rfl ?_
  have h := h.2
  refine mx_aload_n 3 (mx_da t_L_law_1396 6 rfl) rfl rfl rfl rfl ?_
  refine mx_callSX yL_stays m_L_stays [.ref 1, .int ((mx_scr M).2 (v4 + 1).toNatClampNeg), .ref 98] mm_L_stays ml_RL_184 st_L_stays rfl (Nat.le_of_ble_eq_true rfl) (mx_da t_L_law_1396 7 rfl) rfl (Nat.le_of_ble_eq_true rfl) rfl ?_
  refine mx_mono h ?_
  intro o M1 ho
  obtain ⟨T1, x2, rfl, h⟩ := ho
  refine ⟨T1.1.trans T.1.symm, ?_⟩
  have T := T1
  clear T1
  show mx_W m_L_law (d + 1) 1407 [.retAddr 1, .ref 1, .ref 58, .ref 98, .int v4, .retAddr 0, .retAddr 0] [.int x2] M1 Q
  refine mx_istore 5 [.retAddr 1, .ref 1, .ref 58, .ref 98, .int v4, .int x2, .retAddr 0] (mx_da t_L_law_1396 8 rfl) rfl (by decide) rfl ?_
  refine mx_aload_n 2 (mx_da t_L_law_1396 9 rfl) rfl rfl rfl rfl ?_
  refine mx_aload_n 0 (mx_da t_L_law_1396 10 rfl) rfl rfl rfl rfl ?_
  refine mx_iload 4 (mx_da t_L_law_1396 11 rfl) rfl rfl ?_
  refine mx_iconst (v := 1) (mx_da t_L_law_1396 12 rfl) rfl rfl ?_
  refine mx_iadd (mx_da t_L_law_1396 13 rfl) rfl ?_
  refine mx_sld h.1 (mx_da t_L_law_1396 14 rfl) rfl ?_
  have h := h.2
  refine mx_callV yX11_stays m_X11_stays [.int ((mx_scr M1).2 (v4 + 1).toNatClampNeg)] mm_X11_stays ml_RL_186 im_X11_stays se_X11_stays (tp_s T 58 rfl) rfl rfl (Nat.le_of_ble_eq_true rfl) (mx_da t_L_law_1396 15 rfl) rfl (Nat.le_of_ble_eq_true rfl) rfl ?_
  refine mx_mono h ?_
  intro o M3 ho
  obtain ⟨T1, x4, rfl, h⟩ := ho
  refine ⟨T1.1.trans T.1.symm, ?_⟩
  have T := T1
  clear T1
  show mx_W m_L_law (d + 1) 1419 [.retAddr 1, .ref 1, .ref 58, .ref 98, .int v4, .int x2, .retAddr 0] [.int x4] M3 Q
  refine mx_istore 6 [.retAddr 1, .ref 1, .ref 58, .ref 98, .int v4, .int x2, .int x4] (mx_da t_L_law_1396 16 rfl) rfl (by decide) rfl ?_
  refine mx_aload_n 2 (mx_da t_L_law_1396 17 rfl) rfl rfl rfl rfl ?_
  refine mx_callV yX11_thrown m_X11_thrown [] mm_X11_thrown ml_RL_117 im_X11_thrown se_X11_thrown (tp_s T 58 rfl) rfl rfl (Nat.le_of_ble_eq_true rfl) (mx_da t_L_law_1396 18 rfl) rfl (Nat.le_of_ble_eq_true rfl) rfl ?_
  refine mx_mono h ?_
  intro o M5 ho
  obtain ⟨T1, x6, rfl, h⟩ := ho
  refine ⟨T1.1.trans T.1.symm, ?_⟩
  have T := T1
  clear T1
  show mx_W m_L_law (d + 1) 1425 [.retAddr 1, .ref 1, .ref 58, .ref 98, .int v4, .int x2, .int x4] [.int x6] M5 Q
  refine mx_iload 5 (mx_da t_L_law_1396 19 rfl) rfl rfl ?_
  refine mx_icmp_eq 1432 (mx_da t_L_law_1396 20 rfl) rfl rfl (fun g9 => ?_) (fun g9 => ?_)
  · have h := h.1 g9
    refine mx_iload 5 (mx_da t_L_law_1396 23 rfl) rfl rfl ?_
    refine mx_if_ne 1449 (mx_da t_L_law_1396 24 rfl) rfl rfl (fun g9 => ?_) (fun g9 => ?_)
    · have h := h.1 g9
      refine mx_goto (n := 2312) (mx_da t_L_law_1396 34 rfl) rfl ?_
      exact mx_wkn [.retAddr 1, .ref 1, .ref 58, .ref 98, .int v4, .retAddr 0, .retAddr 0] ⟨Or.inr rfl, Or.inr rfl, Or.inr rfl, Or.inr rfl, Or.inr rfl, Or.inl rfl, Or.inl rfl, trivial⟩ h
    · have h := h.2 g9
      refine mx_aload_n 3 (mx_da t_L_law_1396 25 rfl) rfl rfl rfl rfl ?_
      refine mx_iconst (v := 0) (mx_da t_L_law_1396 26 rfl) rfl rfl ?_
      refine mx_lald (tp_s T 98 rfl) (mx_vin rfl) (mx_da t_L_law_1396 27 rfl) rfl ?_
      refine mx_iload 6 (mx_da t_L_law_1396 28 rfl) rfl rfl ?_
      refine mx_i2l (mx_da t_L_law_1396 29 rfl) rfl ?_
      refine mx_lcmp (mx_da t_L_law_1396 30 rfl) rfl ?_
      refine mx_if_eq 1449 (mx_da t_L_law_1396 31 rfl) rfl rfl (fun g9 => ?_) (fun g9 => ?_)
      · have h := h.1 (mx_lc0.mp g9)
        refine mx_goto (n := 2312) (mx_da t_L_law_1396 34 rfl) rfl ?_
        exact mx_wkn [.retAddr 1, .ref 1, .ref 58, .ref 98, .int v4, .retAddr 0, .retAddr 0] ⟨Or.inr rfl, Or.inr rfl, Or.inr rfl, Or.inr rfl, Or.inr rfl, Or.inl rfl, Or.inl rfl, trivial⟩ h
      · have h := h.2 (mx_lcn.mp g9)
        refine mx_iconst (v := 0) (mx_da t_L_law_1396 32 rfl) rfl rfl ?_
        exact mx_zret rfl rfl (mx_da t_L_law_1396 33 rfl) h
  · have h := h.2 g9
    refine mx_iconst (v := 0) (mx_da t_L_law_1396 21 rfl) rfl rfl ?_
    exact mx_zret rfl rfl (mx_da t_L_law_1396 22 rfl) h
set_option maxHeartbeats 4000000 in
theorem x_L_law_1452 {d : Nat} {M : mx_M} {Q : mx_O → mx_M → Prop} (T : mx_Tp M) (v4 : Int32)
    (h : (vp_in (v4 + 1) (mx_scr M).1 ∧ (vp_in (v4 + 2) (mx_scr M).1 ∧ (vp_in (v4 + 3) (mx_scr M).1 ∧ (mx_W m_L_search d 0 [.ref 1, .int ((mx_scr M).2 (v4 + 1).toNatClampNeg), .int ((mx_scr M).2 (v4 + 2).toNatClampNeg), .int ((mx_scr M).2 (v4 + 3).toNatClampNeg), .ref 98, .retAddr 0] [] M (fun o M1 => mx_Tp M1 ∧ (∃ x2 : Int32, o = .inl (some (.int x2)) ∧ (vp_in (v4 + 1) (mx_scr M1).1 ∧ (vp_in (v4 + 2) (mx_scr M1).1 ∧ (vp_in (v4 + 3) (mx_scr M1).1 ∧ (mx_W m_X11_search d 0 [.ref 58, .int ((mx_scr M1).2 (v4 + 1).toNatClampNeg), .int ((mx_scr M1).2 (v4 + 2).toNatClampNeg), .int ((mx_scr M1).2 (v4 + 3).toNatClampNeg), .retAddr 0] [] M1 (fun o M3 => mx_Tp M3 ∧ (∃ x4 : Int32, o = .inl (some (.int x4)) ∧ (mx_W m_X11_thrown d 0 [.ref 58] [] M3 (fun o M5 => mx_Tp M5 ∧ (∃ x6 : Int32, o = .inl (some (.int x6)) ∧ ((x6 = x2 → ((¬ x2 = 0 → mx_W m_L_law (d + 1) 2312 [.retAddr 1, .ref 1, .ref 58, .ref 98, .int v4, .retAddr 0, .retAddr 0] [] M5 Q) ∧ (x2 = 0 → ((mx_J M5 98 0 = x4.toInt64 → mx_W m_L_law (d + 1) 2312 [.retAddr 1, .ref 1, .ref 58, .ref 98, .int v4, .retAddr 0, .retAddr 0] [] M5 Q) ∧ (¬ mx_J M5 98 0 = x4.toInt64 → Q (.inl (some (.int (mx_b false)))) M5))))) ∧ (¬ x6 = x2 → Q (.inl (some (.int (mx_b false)))) M5)))))))))))))))))) :
    mx_W m_L_law (d + 1) 1452 [.retAddr 1, .ref 1, .ref 58, .ref 98, .int v4, .retAddr 0, .retAddr 0] [] M Q := by
  refine mx_aload_n 1 (mx_da t_L_law_1452 0 rfl) rfl rfl rfl rfl ?_
  refine mx_aload_n 0 (mx_da t_L_law_1452 1 rfl) rfl rfl rfl rfl ?_
  refine mx_iload 4 (mx_da t_L_law_1452 2 rfl) rfl rfl ?_
  refine mx_iconst (v := 1) (mx_da t_L_law_1452 3 rfl) rfl rfl ?_
  refine mx_iadd (mx_da t_L_law_1452 4 rfl) rfl ?_
  refine mx_sld h.1 (mx_da t_L_law_1452 5 rfl) rfl ?_
  have h := h.2
  refine mx_aload_n 0 (mx_da t_L_law_1452 6 rfl) rfl rfl rfl rfl ?_
  refine mx_iload 4 (mx_da t_L_law_1452 7 rfl) rfl rfl ?_
  refine mx_iconst (v := 2) (mx_da t_L_law_1452 8 rfl) rfl rfl ?_
  refine mx_iadd (mx_da t_L_law_1452 9 rfl) rfl ?_
  refine mx_sld h.1 (mx_da t_L_law_1452 10 rfl) rfl ?_
  have h := h.2
  refine mx_aload_n 0 (mx_da t_L_law_1452 11 rfl) rfl rfl rfl rfl ?_
  refine mx_iload 4 (mx_da t_L_law_1452 12 rfl) rfl rfl ?_
  refine mx_iconst (v := 3) (mx_da t_L_law_1452 13 rfl) rfl rfl ?_
  refine mx_iadd (mx_da t_L_law_1452 14 rfl) rfl ?_
  refine mx_sld h.1 (mx_da t_L_law_1452 15 rfl) rfl ?_
  have h := h.2
  refine mx_aload_n 3 (mx_da t_L_law_1452 16 rfl) rfl rfl rfl rfl ?_
  refine mx_callSX yL_search m_L_search [.ref 1, .int ((mx_scr M).2 (v4 + 1).toNatClampNeg), .int ((mx_scr M).2 (v4 + 2).toNatClampNeg), .int ((mx_scr M).2 (v4 + 3).toNatClampNeg), .ref 98] mm_L_search ml_RL_187 st_L_search rfl (Nat.le_of_ble_eq_true rfl) (mx_da t_L_law_1452 17 rfl) rfl (Nat.le_of_ble_eq_true rfl) rfl ?_
  refine mx_mono h ?_
  intro o M1 ho
  obtain ⟨T1, x2, rfl, h⟩ := ho
  refine ⟨T1.1.trans T.1.symm, ?_⟩
  have T := T1
  clear T1
  show mx_W m_L_law (d + 1) 1475 [.retAddr 1, .ref 1, .ref 58, .ref 98, .int v4, .retAddr 0, .retAddr 0] [.int x2] M1 Q
  refine mx_istore 5 [.retAddr 1, .ref 1, .ref 58, .ref 98, .int v4, .int x2, .retAddr 0] (mx_da t_L_law_1452 18 rfl) rfl (by decide) rfl ?_
  refine mx_aload_n 2 (mx_da t_L_law_1452 19 rfl) rfl rfl rfl rfl ?_
  refine mx_aload_n 0 (mx_da t_L_law_1452 20 rfl) rfl rfl rfl rfl ?_
  refine mx_iload 4 (mx_da t_L_law_1452 21 rfl) rfl rfl ?_
  refine mx_iconst (v := 1) (mx_da t_L_law_1452 22 rfl) rfl rfl ?_
  refine mx_iadd (mx_da t_L_law_1452 23 rfl) rfl ?_
  refine mx_sld h.1 (mx_da t_L_law_1452 24 rfl) rfl ?_
  have h := h.2
  refine mx_aload_n 0 (mx_da t_L_law_1452 25 rfl) rfl rfl rfl rfl ?_
  refine mx_iload 4 (mx_da t_L_law_1452 26 rfl) rfl rfl ?_
  refine mx_iconst (v := 2) (mx_da t_L_law_1452 27 rfl) rfl rfl ?_
  refine mx_iadd (mx_da t_L_law_1452 28 rfl) rfl ?_
  refine mx_sld h.1 (mx_da t_L_law_1452 29 rfl) rfl ?_
  have h := h.2
  refine mx_aload_n 0 (mx_da t_L_law_1452 30 rfl) rfl rfl rfl rfl ?_
  refine mx_iload 4 (mx_da t_L_law_1452 31 rfl) rfl rfl ?_
  refine mx_iconst (v := 3) (mx_da t_L_law_1452 32 rfl) rfl rfl ?_
  refine mx_iadd (mx_da t_L_law_1452 33 rfl) rfl ?_
  refine mx_sld h.1 (mx_da t_L_law_1452 34 rfl) rfl ?_
  have h := h.2
  refine mx_callV yX11_search m_X11_search [.int ((mx_scr M1).2 (v4 + 1).toNatClampNeg), .int ((mx_scr M1).2 (v4 + 2).toNatClampNeg), .int ((mx_scr M1).2 (v4 + 3).toNatClampNeg)] mm_X11_search ml_RL_189 im_X11_search se_X11_search (tp_s T 58 rfl) rfl rfl (Nat.le_of_ble_eq_true rfl) (mx_da t_L_law_1452 35 rfl) rfl (Nat.le_of_ble_eq_true rfl) rfl ?_
  refine mx_mono h ?_
  intro o M3 ho
  obtain ⟨T1, x4, rfl, h⟩ := ho
  refine ⟨T1.1.trans T.1.symm, ?_⟩
  have T := T1
  clear T1
  show mx_W m_L_law (d + 1) 1499 [.retAddr 1, .ref 1, .ref 58, .ref 98, .int v4, .int x2, .retAddr 0] [.int x4] M3 Q
  refine mx_istore 6 [.retAddr 1, .ref 1, .ref 58, .ref 98, .int v4, .int x2, .int x4] (mx_da t_L_law_1452 36 rfl) rfl (by decide) rfl ?_
  refine mx_aload_n 2 (mx_da t_L_law_1452 37 rfl) rfl rfl rfl rfl ?_
  refine mx_callV yX11_thrown m_X11_thrown [] mm_X11_thrown ml_RL_117 im_X11_thrown se_X11_thrown (tp_s T 58 rfl) rfl rfl (Nat.le_of_ble_eq_true rfl) (mx_da t_L_law_1452 38 rfl) rfl (Nat.le_of_ble_eq_true rfl) rfl ?_
  refine mx_mono h ?_
  intro o M5 ho
  obtain ⟨T1, x6, rfl, h⟩ := ho
  refine ⟨T1.1.trans T.1.symm, ?_⟩
  have T := T1
  clear T1
  show mx_W m_L_law (d + 1) 1505 [.retAddr 1, .ref 1, .ref 58, .ref 98, .int v4, .int x2, .int x4] [.int x6] M5 Q
  refine mx_iload 5 (mx_da t_L_law_1452 39 rfl) rfl rfl ?_
  refine mx_icmp_eq 1512 (mx_da t_L_law_1452 40 rfl) rfl rfl (fun g9 => ?_) (fun g9 => ?_)
  · have h := h.1 g9
    refine mx_iload 5 (mx_da t_L_law_1452 43 rfl) rfl rfl ?_
    refine mx_if_ne 1529 (mx_da t_L_law_1452 44 rfl) rfl rfl (fun g9 => ?_) (fun g9 => ?_)
    · have h := h.1 g9
      refine mx_goto (n := 2312) (mx_da t_L_law_1452 54 rfl) rfl ?_
      exact mx_wkn [.retAddr 1, .ref 1, .ref 58, .ref 98, .int v4, .retAddr 0, .retAddr 0] ⟨Or.inr rfl, Or.inr rfl, Or.inr rfl, Or.inr rfl, Or.inr rfl, Or.inl rfl, Or.inl rfl, trivial⟩ h
    · have h := h.2 g9
      refine mx_aload_n 3 (mx_da t_L_law_1452 45 rfl) rfl rfl rfl rfl ?_
      refine mx_iconst (v := 0) (mx_da t_L_law_1452 46 rfl) rfl rfl ?_
      refine mx_lald (tp_s T 98 rfl) (mx_vin rfl) (mx_da t_L_law_1452 47 rfl) rfl ?_
      refine mx_iload 6 (mx_da t_L_law_1452 48 rfl) rfl rfl ?_
      refine mx_i2l (mx_da t_L_law_1452 49 rfl) rfl ?_
      refine mx_lcmp (mx_da t_L_law_1452 50 rfl) rfl ?_
      refine mx_if_eq 1529 (mx_da t_L_law_1452 51 rfl) rfl rfl (fun g9 => ?_) (fun g9 => ?_)
      · have h := h.1 (mx_lc0.mp g9)
        refine mx_goto (n := 2312) (mx_da t_L_law_1452 54 rfl) rfl ?_
        exact mx_wkn [.retAddr 1, .ref 1, .ref 58, .ref 98, .int v4, .retAddr 0, .retAddr 0] ⟨Or.inr rfl, Or.inr rfl, Or.inr rfl, Or.inr rfl, Or.inr rfl, Or.inl rfl, Or.inl rfl, trivial⟩ h
      · have h := h.2 (mx_lcn.mp g9)
        refine mx_iconst (v := 0) (mx_da t_L_law_1452 52 rfl) rfl rfl ?_
        exact mx_zret rfl rfl (mx_da t_L_law_1452 53 rfl) h
  · have h := h.2 g9
    refine mx_iconst (v := 0) (mx_da t_L_law_1452 41 rfl) rfl rfl ?_
    exact mx_zret rfl rfl (mx_da t_L_law_1452 42 rfl) h
set_option maxHeartbeats 4000000 in
theorem x_L_law_1532 {d : Nat} {M : mx_M} {Q : mx_O → mx_M → Prop} (T : mx_Tp M) (v4 : Int32)
    (h : (mx_W m_X10_could d 0 [.ref 1, .retAddr 0, .retAddr 0] [] M (fun o M1 => mx_Tp M1 ∧ (∃ x2 : Int32, o = .inl (some (.int x2)) ∧ (mx_W m_X11_could d 0 [.ref 58, .retAddr 0, .retAddr 0] [] M1 (fun o M3 => mx_Tp M3 ∧ (∃ x4 : Int32, o = .inl (some (.int x4)) ∧ ((x2 = x4 → mx_W m_L_law (d + 1) 2312 [.retAddr 1, .ref 1, .ref 58, .ref 98, .int v4, .retAddr 0, .retAddr 0] [] M3 Q) ∧ (¬ x2 = x4 → Q (.inl (some (.int (mx_b false)))) M3))))))))) :
    mx_W m_L_law (d + 1) 1532 [.retAddr 1, .ref 1, .ref 58, .ref 98, .int v4, .retAddr 0, .retAddr 0] [] M Q := by
  refine mx_aload_n 1 (mx_da t_L_law_1532 0 rfl) rfl rfl rfl rfl ?_
  refine mx_callV yX10_could m_X10_could [] mm_X10_could ml_RL_190 im_X10_could se_X10_could (tp_s T 1 rfl) rfl rfl (Nat.le_of_ble_eq_true rfl) (mx_da t_L_law_1532 1 rfl) rfl (Nat.le_of_ble_eq_true rfl) rfl ?_
  refine mx_mono h ?_
  intro o M1 ho
  obtain ⟨T1, x2, rfl, h⟩ := ho
  refine ⟨T1.1.trans T.1.symm, ?_⟩
  have T := T1
  clear T1
  show mx_W m_L_law (d + 1) 1536 [.retAddr 1, .ref 1, .ref 58, .ref 98, .int v4, .retAddr 0, .retAddr 0] [.int x2] M1 Q
  refine mx_aload_n 2 (mx_da t_L_law_1532 2 rfl) rfl rfl rfl rfl ?_
  refine mx_callV yX11_could m_X11_could [] mm_X11_could ml_RL_193 im_X11_could se_X11_could (tp_s T 58 rfl) rfl rfl (Nat.le_of_ble_eq_true rfl) (mx_da t_L_law_1532 3 rfl) rfl (Nat.le_of_ble_eq_true rfl) rfl ?_
  refine mx_mono h ?_
  intro o M3 ho
  obtain ⟨T1, x4, rfl, h⟩ := ho
  refine ⟨T1.1.trans T.1.symm, ?_⟩
  have T := T1
  clear T1
  show mx_W m_L_law (d + 1) 1540 [.retAddr 1, .ref 1, .ref 58, .ref 98, .int v4, .retAddr 0, .retAddr 0] [.int x4, .int x2] M3 Q
  refine mx_icmp_eq 2312 (mx_da t_L_law_1532 4 rfl) rfl rfl (fun g9 => ?_) (fun g9 => ?_)
  · have h := h.1 g9
    exact h
  · have h := h.2 g9
    refine mx_iconst (v := 0) (mx_da t_L_law_1532 5 rfl) rfl rfl ?_
    exact mx_zret rfl rfl (mx_da t_L_law_1532 6 rfl) h
set_option maxHeartbeats 4000000 in
theorem x_L_law_1545 {d : Nat} {M : mx_M} {Q : mx_O → mx_M → Prop} (T : mx_Tp M) (v4 : Int32)
    (h : (mx_W m_X10_explained d 0 [.ref 1, .retAddr 0, .retAddr 0, .retAddr 0] [] M (fun o M1 => mx_Tp M1 ∧ (∃ x2 : Int32, o = .inl (some (.int x2)) ∧ (mx_W m_X11_explained d 0 [.ref 58, .retAddr 0, .retAddr 0] [] M1 (fun o M3 => mx_Tp M3 ∧ (∃ x4 : Int32, o = .inl (some (.int x4)) ∧ ((x2 = x4 → mx_W m_L_law (d + 1) 2312 [.retAddr 1, .ref 1, .ref 58, .ref 98, .int v4, .retAddr 0, .retAddr 0] [] M3 Q) ∧ (¬ x2 = x4 → Q (.inl (some (.int (mx_b false)))) M3))))))))) :
    mx_W m_L_law (d + 1) 1545 [.retAddr 1, .ref 1, .ref 58, .ref 98, .int v4, .retAddr 0, .retAddr 0] [] M Q := by
  refine mx_aload_n 1 (mx_da t_L_law_1545 0 rfl) rfl rfl rfl rfl ?_
  refine mx_callV yX10_explained m_X10_explained [] mm_X10_explained ml_RL_194 im_X10_explained se_X10_explained (tp_s T 1 rfl) rfl rfl (Nat.le_of_ble_eq_true rfl) (mx_da t_L_law_1545 1 rfl) rfl (Nat.le_of_ble_eq_true rfl) rfl ?_
  refine mx_mono h ?_
  intro o M1 ho
  obtain ⟨T1, x2, rfl, h⟩ := ho
  refine ⟨T1.1.trans T.1.symm, ?_⟩
  have T := T1
  clear T1
  show mx_W m_L_law (d + 1) 1549 [.retAddr 1, .ref 1, .ref 58, .ref 98, .int v4, .retAddr 0, .retAddr 0] [.int x2] M1 Q
  refine mx_aload_n 2 (mx_da t_L_law_1545 2 rfl) rfl rfl rfl rfl ?_
  refine mx_callV yX11_explained m_X11_explained [] mm_X11_explained ml_RL_197 im_X11_explained se_X11_explained (tp_s T 58 rfl) rfl rfl (Nat.le_of_ble_eq_true rfl) (mx_da t_L_law_1545 3 rfl) rfl (Nat.le_of_ble_eq_true rfl) rfl ?_
  refine mx_mono h ?_
  intro o M3 ho
  obtain ⟨T1, x4, rfl, h⟩ := ho
  refine ⟨T1.1.trans T.1.symm, ?_⟩
  have T := T1
  clear T1
  show mx_W m_L_law (d + 1) 1553 [.retAddr 1, .ref 1, .ref 58, .ref 98, .int v4, .retAddr 0, .retAddr 0] [.int x4, .int x2] M3 Q
  refine mx_icmp_eq 2312 (mx_da t_L_law_1545 4 rfl) rfl rfl (fun g9 => ?_) (fun g9 => ?_)
  · have h := h.1 g9
    exact h
  · have h := h.2 g9
    refine mx_iconst (v := 0) (mx_da t_L_law_1545 5 rfl) rfl rfl ?_
    exact mx_zret rfl rfl (mx_da t_L_law_1545 6 rfl) h
set_option maxHeartbeats 4000000 in
theorem x_L_law_1558 {d : Nat} {M : mx_M} {Q : mx_O → mx_M → Prop} (T : mx_Tp M) (v4 : Int32)
    (h : (vp_in (v4 + 1) (mx_scr M).1 ∧ (mx_W m_L_telling d 0 [.ref 1, .int ((mx_scr M).2 (v4 + 1).toNatClampNeg), .ref 98, .retAddr 0] [] M (fun o M1 => mx_Tp M1 ∧ (∃ x2 : Int32, o = .inl (some (.int x2)) ∧ (vp_in (v4 + 1) (mx_scr M1).1 ∧ (mx_W m_X11_telling d 0 [.ref 58, .int ((mx_scr M1).2 (v4 + 1).toNatClampNeg), .retAddr 0, .retAddr 0, .retAddr 0, .retAddr 0, .retAddr 0, .retAddr 0] [] M1 (fun o M3 => mx_Tp M3 ∧ (∃ x4 : Int32, o = .inl (some (.int x4)) ∧ (mx_W m_X11_thrown d 0 [.ref 58] [] M3 (fun o M5 => mx_Tp M5 ∧ (∃ x6 : Int32, o = .inl (some (.int x6)) ∧ ((x6 = x2 → ((¬ x2 = 0 → mx_W m_L_law (d + 1) 2312 [.retAddr 1, .ref 1, .ref 58, .ref 98, .int v4, .retAddr 0, .retAddr 0] [] M5 Q) ∧ (x2 = 0 → ((mx_J M5 98 0 = x4.toInt64 → mx_W m_L_law (d + 1) 2312 [.retAddr 1, .ref 1, .ref 58, .ref 98, .int v4, .retAddr 0, .retAddr 0] [] M5 Q) ∧ (¬ mx_J M5 98 0 = x4.toInt64 → Q (.inl (some (.int (mx_b false)))) M5))))) ∧ (¬ x6 = x2 → Q (.inl (some (.int (mx_b false)))) M5)))))))))))))) :
    mx_W m_L_law (d + 1) 1558 [.retAddr 1, .ref 1, .ref 58, .ref 98, .int v4, .retAddr 0, .retAddr 0] [] M Q := by
  refine mx_aload_n 1 (mx_da t_L_law_1558 0 rfl) rfl rfl rfl rfl ?_
  refine mx_aload_n 0 (mx_da t_L_law_1558 1 rfl) rfl rfl rfl rfl ?_
  refine mx_iload 4 (mx_da t_L_law_1558 2 rfl) rfl rfl ?_
  refine mx_iconst (v := 1) (mx_da t_L_law_1558 3 rfl) rfl rfl ?_
  refine mx_iadd (mx_da t_L_law_1558 4 rfl) rfl ?_
  refine mx_sld h.1 (mx_da t_L_law_1558 5 rfl) rfl ?_
  have h := h.2
  refine mx_aload_n 3 (mx_da t_L_law_1558 6 rfl) rfl rfl rfl rfl ?_
  refine mx_callSX yL_telling m_L_telling [.ref 1, .int ((mx_scr M).2 (v4 + 1).toNatClampNeg), .ref 98] mm_L_telling ml_RL_198 st_L_telling rfl (Nat.le_of_ble_eq_true rfl) (mx_da t_L_law_1558 7 rfl) rfl (Nat.le_of_ble_eq_true rfl) rfl ?_
  refine mx_mono h ?_
  intro o M1 ho
  obtain ⟨T1, x2, rfl, h⟩ := ho
  refine ⟨T1.1.trans T.1.symm, ?_⟩
  have T := T1
  clear T1
  show mx_W m_L_law (d + 1) 1569 [.retAddr 1, .ref 1, .ref 58, .ref 98, .int v4, .retAddr 0, .retAddr 0] [.int x2] M1 Q
  refine mx_istore 5 [.retAddr 1, .ref 1, .ref 58, .ref 98, .int v4, .int x2, .retAddr 0] (mx_da t_L_law_1558 8 rfl) rfl (by decide) rfl ?_
  refine mx_aload_n 2 (mx_da t_L_law_1558 9 rfl) rfl rfl rfl rfl ?_
  refine mx_aload_n 0 (mx_da t_L_law_1558 10 rfl) rfl rfl rfl rfl ?_
  refine mx_iload 4 (mx_da t_L_law_1558 11 rfl) rfl rfl ?_
  refine mx_iconst (v := 1) (mx_da t_L_law_1558 12 rfl) rfl rfl ?_
  refine mx_iadd (mx_da t_L_law_1558 13 rfl) rfl ?_
  refine mx_sld h.1 (mx_da t_L_law_1558 14 rfl) rfl ?_
  have h := h.2
  refine mx_callV yX11_telling m_X11_telling [.int ((mx_scr M1).2 (v4 + 1).toNatClampNeg)] mm_X11_telling ml_RL_200 im_X11_telling se_X11_telling (tp_s T 58 rfl) rfl rfl (Nat.le_of_ble_eq_true rfl) (mx_da t_L_law_1558 15 rfl) rfl (Nat.le_of_ble_eq_true rfl) rfl ?_
  refine mx_mono h ?_
  intro o M3 ho
  obtain ⟨T1, x4, rfl, h⟩ := ho
  refine ⟨T1.1.trans T.1.symm, ?_⟩
  have T := T1
  clear T1
  show mx_W m_L_law (d + 1) 1581 [.retAddr 1, .ref 1, .ref 58, .ref 98, .int v4, .int x2, .retAddr 0] [.int x4] M3 Q
  refine mx_istore 6 [.retAddr 1, .ref 1, .ref 58, .ref 98, .int v4, .int x2, .int x4] (mx_da t_L_law_1558 16 rfl) rfl (by decide) rfl ?_
  refine mx_aload_n 2 (mx_da t_L_law_1558 17 rfl) rfl rfl rfl rfl ?_
  refine mx_callV yX11_thrown m_X11_thrown [] mm_X11_thrown ml_RL_117 im_X11_thrown se_X11_thrown (tp_s T 58 rfl) rfl rfl (Nat.le_of_ble_eq_true rfl) (mx_da t_L_law_1558 18 rfl) rfl (Nat.le_of_ble_eq_true rfl) rfl ?_
  refine mx_mono h ?_
  intro o M5 ho
  obtain ⟨T1, x6, rfl, h⟩ := ho
  refine ⟨T1.1.trans T.1.symm, ?_⟩
  have T := T1
  clear T1
  show mx_W m_L_law (d + 1) 1587 [.retAddr 1, .ref 1, .ref 58, .ref 98, .int v4, .int x2, .int x4] [.int x6] M5 Q
  refine mx_iload 5 (mx_da t_L_law_1558 19 rfl) rfl rfl ?_
  refine mx_icmp_eq 1594 (mx_da t_L_law_1558 20 rfl) rfl rfl (fun g9 => ?_) (fun g9 => ?_)
  · have h := h.1 g9
    refine mx_iload 5 (mx_da t_L_law_1558 23 rfl) rfl rfl ?_
    refine mx_if_ne 1611 (mx_da t_L_law_1558 24 rfl) rfl rfl (fun g9 => ?_) (fun g9 => ?_)
    · have h := h.1 g9
      refine mx_goto (n := 2312) (mx_da t_L_law_1558 34 rfl) rfl ?_
      exact mx_wkn [.retAddr 1, .ref 1, .ref 58, .ref 98, .int v4, .retAddr 0, .retAddr 0] ⟨Or.inr rfl, Or.inr rfl, Or.inr rfl, Or.inr rfl, Or.inr rfl, Or.inl rfl, Or.inl rfl, trivial⟩ h
    · have h := h.2 g9
      refine mx_aload_n 3 (mx_da t_L_law_1558 25 rfl) rfl rfl rfl rfl ?_
      refine mx_iconst (v := 0) (mx_da t_L_law_1558 26 rfl) rfl rfl ?_
      refine mx_lald (tp_s T 98 rfl) (mx_vin rfl) (mx_da t_L_law_1558 27 rfl) rfl ?_
      refine mx_iload 6 (mx_da t_L_law_1558 28 rfl) rfl rfl ?_
      refine mx_i2l (mx_da t_L_law_1558 29 rfl) rfl ?_
      refine mx_lcmp (mx_da t_L_law_1558 30 rfl) rfl ?_
      refine mx_if_eq 1611 (mx_da t_L_law_1558 31 rfl) rfl rfl (fun g9 => ?_) (fun g9 => ?_)
      · have h := h.1 (mx_lc0.mp g9)
        refine mx_goto (n := 2312) (mx_da t_L_law_1558 34 rfl) rfl ?_
        exact mx_wkn [.retAddr 1, .ref 1, .ref 58, .ref 98, .int v4, .retAddr 0, .retAddr 0] ⟨Or.inr rfl, Or.inr rfl, Or.inr rfl, Or.inr rfl, Or.inr rfl, Or.inl rfl, Or.inl rfl, trivial⟩ h
      · have h := h.2 (mx_lcn.mp g9)
        refine mx_iconst (v := 0) (mx_da t_L_law_1558 32 rfl) rfl rfl ?_
        exact mx_zret rfl rfl (mx_da t_L_law_1558 33 rfl) h
  · have h := h.2 g9
    refine mx_iconst (v := 0) (mx_da t_L_law_1558 21 rfl) rfl rfl ?_
    exact mx_zret rfl rfl (mx_da t_L_law_1558 22 rfl) h
set_option maxHeartbeats 4000000 in
theorem x_L_law_1614 {d : Nat} {M : mx_M} {Q : mx_O → mx_M → Prop} (T : mx_Tp M) (v4 : Int32)
    (h : (vp_in (v4 + 1) (mx_scr M).1 ∧ (vp_in (v4 + 2) (mx_scr M).1 ∧ (mx_W m_L_matters d 0 [.ref 1, .int ((mx_scr M).2 (v4 + 1).toNatClampNeg), .int ((mx_scr M).2 (v4 + 2).toNatClampNeg), .ref 98, .retAddr 0] [] M (fun o M1 => mx_Tp M1 ∧ (∃ x2 : Int32, o = .inl (some (.int x2)) ∧ (vp_in (v4 + 1) (mx_scr M1).1 ∧ (vp_in (v4 + 2) (mx_scr M1).1 ∧ (mx_W m_X11_matters d 0 [.ref 58, .int ((mx_scr M1).2 (v4 + 1).toNatClampNeg), .int ((mx_scr M1).2 (v4 + 2).toNatClampNeg)] [] M1 (fun o M3 => mx_Tp M3 ∧ (∃ x4 : Int32, o = .inl (some (.int x4)) ∧ (mx_W m_X11_thrown d 0 [.ref 58] [] M3 (fun o M5 => mx_Tp M5 ∧ (∃ x6 : Int32, o = .inl (some (.int x6)) ∧ ((x6 = x2 → ((¬ x2 = 0 → mx_W m_L_law (d + 1) 2312 [.retAddr 1, .ref 1, .ref 58, .ref 98, .int v4, .retAddr 0, .retAddr 0] [] M5 Q) ∧ (x2 = 0 → ((mx_J M5 98 0 = x4.toInt64 → mx_W m_L_law (d + 1) 2312 [.retAddr 1, .ref 1, .ref 58, .ref 98, .int v4, .retAddr 0, .retAddr 0] [] M5 Q) ∧ (¬ mx_J M5 98 0 = x4.toInt64 → Q (.inl (some (.int (mx_b false)))) M5))))) ∧ (¬ x6 = x2 → Q (.inl (some (.int (mx_b false)))) M5)))))))))))))))) :
    mx_W m_L_law (d + 1) 1614 [.retAddr 1, .ref 1, .ref 58, .ref 98, .int v4, .retAddr 0, .retAddr 0] [] M Q := by
  refine mx_aload_n 1 (mx_da t_L_law_1614 0 rfl) rfl rfl rfl rfl ?_
  refine mx_aload_n 0 (mx_da t_L_law_1614 1 rfl) rfl rfl rfl rfl ?_
  refine mx_iload 4 (mx_da t_L_law_1614 2 rfl) rfl rfl ?_
  refine mx_iconst (v := 1) (mx_da t_L_law_1614 3 rfl) rfl rfl ?_
  refine mx_iadd (mx_da t_L_law_1614 4 rfl) rfl ?_
  refine mx_sld h.1 (mx_da t_L_law_1614 5 rfl) rfl ?_
  have h := h.2
  refine mx_aload_n 0 (mx_da t_L_law_1614 6 rfl) rfl rfl rfl rfl ?_
  refine mx_iload 4 (mx_da t_L_law_1614 7 rfl) rfl rfl ?_
  refine mx_iconst (v := 2) (mx_da t_L_law_1614 8 rfl) rfl rfl ?_
  refine mx_iadd (mx_da t_L_law_1614 9 rfl) rfl ?_
  refine mx_sld h.1 (mx_da t_L_law_1614 10 rfl) rfl ?_
  have h := h.2
  refine mx_aload_n 3 (mx_da t_L_law_1614 11 rfl) rfl rfl rfl rfl ?_
  refine mx_callSX yL_matters m_L_matters [.ref 1, .int ((mx_scr M).2 (v4 + 1).toNatClampNeg), .int ((mx_scr M).2 (v4 + 2).toNatClampNeg), .ref 98] mm_L_matters ml_RL_201 st_L_matters rfl (Nat.le_of_ble_eq_true rfl) (mx_da t_L_law_1614 12 rfl) rfl (Nat.le_of_ble_eq_true rfl) rfl ?_
  refine mx_mono h ?_
  intro o M1 ho
  obtain ⟨T1, x2, rfl, h⟩ := ho
  refine ⟨T1.1.trans T.1.symm, ?_⟩
  have T := T1
  clear T1
  show mx_W m_L_law (d + 1) 1631 [.retAddr 1, .ref 1, .ref 58, .ref 98, .int v4, .retAddr 0, .retAddr 0] [.int x2] M1 Q
  refine mx_istore 5 [.retAddr 1, .ref 1, .ref 58, .ref 98, .int v4, .int x2, .retAddr 0] (mx_da t_L_law_1614 13 rfl) rfl (by decide) rfl ?_
  refine mx_aload_n 2 (mx_da t_L_law_1614 14 rfl) rfl rfl rfl rfl ?_
  refine mx_aload_n 0 (mx_da t_L_law_1614 15 rfl) rfl rfl rfl rfl ?_
  refine mx_iload 4 (mx_da t_L_law_1614 16 rfl) rfl rfl ?_
  refine mx_iconst (v := 1) (mx_da t_L_law_1614 17 rfl) rfl rfl ?_
  refine mx_iadd (mx_da t_L_law_1614 18 rfl) rfl ?_
  refine mx_sld h.1 (mx_da t_L_law_1614 19 rfl) rfl ?_
  have h := h.2
  refine mx_aload_n 0 (mx_da t_L_law_1614 20 rfl) rfl rfl rfl rfl ?_
  refine mx_iload 4 (mx_da t_L_law_1614 21 rfl) rfl rfl ?_
  refine mx_iconst (v := 2) (mx_da t_L_law_1614 22 rfl) rfl rfl ?_
  refine mx_iadd (mx_da t_L_law_1614 23 rfl) rfl ?_
  refine mx_sld h.1 (mx_da t_L_law_1614 24 rfl) rfl ?_
  have h := h.2
  refine mx_callV yX11_matters m_X11_matters [.int ((mx_scr M1).2 (v4 + 1).toNatClampNeg), .int ((mx_scr M1).2 (v4 + 2).toNatClampNeg)] mm_X11_matters ml_RL_203 im_X11_matters se_X11_matters (tp_s T 58 rfl) rfl rfl (Nat.le_of_ble_eq_true rfl) (mx_da t_L_law_1614 25 rfl) rfl (Nat.le_of_ble_eq_true rfl) rfl ?_
  refine mx_mono h ?_
  intro o M3 ho
  obtain ⟨T1, x4, rfl, h⟩ := ho
  refine ⟨T1.1.trans T.1.symm, ?_⟩
  have T := T1
  clear T1
  show mx_W m_L_law (d + 1) 1649 [.retAddr 1, .ref 1, .ref 58, .ref 98, .int v4, .int x2, .retAddr 0] [.int x4] M3 Q
  refine mx_istore 6 [.retAddr 1, .ref 1, .ref 58, .ref 98, .int v4, .int x2, .int x4] (mx_da t_L_law_1614 26 rfl) rfl (by decide) rfl ?_
  refine mx_aload_n 2 (mx_da t_L_law_1614 27 rfl) rfl rfl rfl rfl ?_
  refine mx_callV yX11_thrown m_X11_thrown [] mm_X11_thrown ml_RL_117 im_X11_thrown se_X11_thrown (tp_s T 58 rfl) rfl rfl (Nat.le_of_ble_eq_true rfl) (mx_da t_L_law_1614 28 rfl) rfl (Nat.le_of_ble_eq_true rfl) rfl ?_
  refine mx_mono h ?_
  intro o M5 ho
  obtain ⟨T1, x6, rfl, h⟩ := ho
  refine ⟨T1.1.trans T.1.symm, ?_⟩
  have T := T1
  clear T1
  show mx_W m_L_law (d + 1) 1655 [.retAddr 1, .ref 1, .ref 58, .ref 98, .int v4, .int x2, .int x4] [.int x6] M5 Q
  refine mx_iload 5 (mx_da t_L_law_1614 29 rfl) rfl rfl ?_
  refine mx_icmp_eq 1662 (mx_da t_L_law_1614 30 rfl) rfl rfl (fun g9 => ?_) (fun g9 => ?_)
  · have h := h.1 g9
    refine mx_iload 5 (mx_da t_L_law_1614 33 rfl) rfl rfl ?_
    refine mx_if_ne 1679 (mx_da t_L_law_1614 34 rfl) rfl rfl (fun g9 => ?_) (fun g9 => ?_)
    · have h := h.1 g9
      refine mx_goto (n := 2312) (mx_da t_L_law_1614 44 rfl) rfl ?_
      exact mx_wkn [.retAddr 1, .ref 1, .ref 58, .ref 98, .int v4, .retAddr 0, .retAddr 0] ⟨Or.inr rfl, Or.inr rfl, Or.inr rfl, Or.inr rfl, Or.inr rfl, Or.inl rfl, Or.inl rfl, trivial⟩ h
    · have h := h.2 g9
      refine mx_aload_n 3 (mx_da t_L_law_1614 35 rfl) rfl rfl rfl rfl ?_
      refine mx_iconst (v := 0) (mx_da t_L_law_1614 36 rfl) rfl rfl ?_
      refine mx_lald (tp_s T 98 rfl) (mx_vin rfl) (mx_da t_L_law_1614 37 rfl) rfl ?_
      refine mx_iload 6 (mx_da t_L_law_1614 38 rfl) rfl rfl ?_
      refine mx_i2l (mx_da t_L_law_1614 39 rfl) rfl ?_
      refine mx_lcmp (mx_da t_L_law_1614 40 rfl) rfl ?_
      refine mx_if_eq 1679 (mx_da t_L_law_1614 41 rfl) rfl rfl (fun g9 => ?_) (fun g9 => ?_)
      · have h := h.1 (mx_lc0.mp g9)
        refine mx_goto (n := 2312) (mx_da t_L_law_1614 44 rfl) rfl ?_
        exact mx_wkn [.retAddr 1, .ref 1, .ref 58, .ref 98, .int v4, .retAddr 0, .retAddr 0] ⟨Or.inr rfl, Or.inr rfl, Or.inr rfl, Or.inr rfl, Or.inr rfl, Or.inl rfl, Or.inl rfl, trivial⟩ h
      · have h := h.2 (mx_lcn.mp g9)
        refine mx_iconst (v := 0) (mx_da t_L_law_1614 42 rfl) rfl rfl ?_
        exact mx_zret rfl rfl (mx_da t_L_law_1614 43 rfl) h
  · have h := h.2 g9
    refine mx_iconst (v := 0) (mx_da t_L_law_1614 31 rfl) rfl rfl ?_
    exact mx_zret rfl rfl (mx_da t_L_law_1614 32 rfl) h
set_option maxHeartbeats 4000000 in
theorem x_L_law_1682 {d : Nat} {M : mx_M} {Q : mx_O → mx_M → Prop} (T : mx_Tp M) (v4 : Int32)
    (h : (mx_W m_X10_sees d 0 [.ref 1, .retAddr 0, .retAddr 0, .retAddr 0] [] M (fun o M1 => mx_Tp M1 ∧ (∃ x2 : Int32, o = .inl (some (.int x2)) ∧ (mx_W m_X11_sees d 0 [.ref 58, .retAddr 0, .retAddr 0, .retAddr 0, .retAddr 0, .retAddr 0, .retAddr 0] [] M1 (fun o M3 => mx_Tp M3 ∧ (∃ x4 : Int32, o = .inl (some (.int x4)) ∧ ((x2 = x4 → mx_W m_L_law (d + 1) 2312 [.retAddr 1, .ref 1, .ref 58, .ref 98, .int v4, .retAddr 0, .retAddr 0] [] M3 Q) ∧ (¬ x2 = x4 → Q (.inl (some (.int (mx_b false)))) M3))))))))) :
    mx_W m_L_law (d + 1) 1682 [.retAddr 1, .ref 1, .ref 58, .ref 98, .int v4, .retAddr 0, .retAddr 0] [] M Q := by
  refine mx_aload_n 1 (mx_da t_L_law_1682 0 rfl) rfl rfl rfl rfl ?_
  refine mx_callV yX10_sees m_X10_sees [] mm_X10_sees ml_RL_204 im_X10_sees se_X10_sees (tp_s T 1 rfl) rfl rfl (Nat.le_of_ble_eq_true rfl) (mx_da t_L_law_1682 1 rfl) rfl (Nat.le_of_ble_eq_true rfl) rfl ?_
  refine mx_mono h ?_
  intro o M1 ho
  obtain ⟨T1, x2, rfl, h⟩ := ho
  refine ⟨T1.1.trans T.1.symm, ?_⟩
  have T := T1
  clear T1
  show mx_W m_L_law (d + 1) 1686 [.retAddr 1, .ref 1, .ref 58, .ref 98, .int v4, .retAddr 0, .retAddr 0] [.int x2] M1 Q
  refine mx_aload_n 2 (mx_da t_L_law_1682 2 rfl) rfl rfl rfl rfl ?_
  refine mx_callV yX11_sees m_X11_sees [] mm_X11_sees ml_RL_207 im_X11_sees se_X11_sees (tp_s T 58 rfl) rfl rfl (Nat.le_of_ble_eq_true rfl) (mx_da t_L_law_1682 3 rfl) rfl (Nat.le_of_ble_eq_true rfl) rfl ?_
  refine mx_mono h ?_
  intro o M3 ho
  obtain ⟨T1, x4, rfl, h⟩ := ho
  refine ⟨T1.1.trans T.1.symm, ?_⟩
  have T := T1
  clear T1
  show mx_W m_L_law (d + 1) 1690 [.retAddr 1, .ref 1, .ref 58, .ref 98, .int v4, .retAddr 0, .retAddr 0] [.int x4, .int x2] M3 Q
  refine mx_icmp_eq 2312 (mx_da t_L_law_1682 4 rfl) rfl rfl (fun g9 => ?_) (fun g9 => ?_)
  · have h := h.1 g9
    exact h
  · have h := h.2 g9
    refine mx_iconst (v := 0) (mx_da t_L_law_1682 5 rfl) rfl rfl ?_
    exact mx_zret rfl rfl (mx_da t_L_law_1682 6 rfl) h
set_option maxHeartbeats 4000000 in
theorem x_L_law_1695 {d : Nat} {M : mx_M} {Q : mx_O → mx_M → Prop} (T : mx_Tp M) (v4 : Int32)
    (h : (vp_in (v4 + 1) (mx_scr M).1 ∧ (vp_in (v4 + 2) (mx_scr M).1 ∧ (vp_in (v4 + 3) (mx_scr M).1 ∧ (mx_W m_L_reader d 0 [.ref 1, .int ((mx_scr M).2 (v4 + 1).toNatClampNeg), .int ((mx_scr M).2 (v4 + 2).toNatClampNeg), .int ((mx_scr M).2 (v4 + 3).toNatClampNeg), .ref 98, .retAddr 0] [] M (fun o M1 => mx_Tp M1 ∧ (∃ x2 : Int32, o = .inl (some (.int x2)) ∧ (vp_in (v4 + 1) (mx_scr M1).1 ∧ (vp_in (v4 + 2) (mx_scr M1).1 ∧ (vp_in (v4 + 3) (mx_scr M1).1 ∧ (mx_W m_X11_reader d 0 [.ref 58, .int ((mx_scr M1).2 (v4 + 1).toNatClampNeg), .int ((mx_scr M1).2 (v4 + 2).toNatClampNeg), .int ((mx_scr M1).2 (v4 + 3).toNatClampNeg), .retAddr 0, .retAddr 0, .retAddr 0, .retAddr 0, .retAddr 0, .retAddr 0, .retAddr 0] [] M1 (fun o M3 => mx_Tp M3 ∧ (∃ x4 : Int32, o = .inl (some (.int x4)) ∧ (mx_W m_X11_thrown d 0 [.ref 58] [] M3 (fun o M5 => mx_Tp M5 ∧ (∃ x6 : Int32, o = .inl (some (.int x6)) ∧ ((x6 = x2 → ((¬ x2 = 0 → mx_W m_L_law (d + 1) 2312 [.retAddr 1, .ref 1, .ref 58, .ref 98, .int v4, .retAddr 0, .retAddr 0] [] M5 Q) ∧ (x2 = 0 → ((mx_J M5 98 0 = x4.toInt64 → mx_W m_L_law (d + 1) 2312 [.retAddr 1, .ref 1, .ref 58, .ref 98, .int v4, .retAddr 0, .retAddr 0] [] M5 Q) ∧ (¬ mx_J M5 98 0 = x4.toInt64 → Q (.inl (some (.int (mx_b false)))) M5))))) ∧ (¬ x6 = x2 → Q (.inl (some (.int (mx_b false)))) M5)))))))))))))))))) :
    mx_W m_L_law (d + 1) 1695 [.retAddr 1, .ref 1, .ref 58, .ref 98, .int v4, .retAddr 0, .retAddr 0] [] M Q := by
  refine mx_aload_n 1 (mx_da t_L_law_1695 0 rfl) rfl rfl rfl rfl ?_
  refine mx_aload_n 0 (mx_da t_L_law_1695 1 rfl) rfl rfl rfl rfl ?_
  refine mx_iload 4 (mx_da t_L_law_1695 2 rfl) rfl rfl ?_
  refine mx_iconst (v := 1) (mx_da t_L_law_1695 3 rfl) rfl rfl ?_
  refine mx_iadd (mx_da t_L_law_1695 4 rfl) rfl ?_
  refine mx_sld h.1 (mx_da t_L_law_1695 5 rfl) rfl ?_
  have h := h.2
  refine mx_aload_n 0 (mx_da t_L_law_1695 6 rfl) rfl rfl rfl rfl ?_
  refine mx_iload 4 (mx_da t_L_law_1695 7 rfl) rfl rfl ?_
  refine mx_iconst (v := 2) (mx_da t_L_law_1695 8 rfl) rfl rfl ?_
  refine mx_iadd (mx_da t_L_law_1695 9 rfl) rfl ?_
  refine mx_sld h.1 (mx_da t_L_law_1695 10 rfl) rfl ?_
  have h := h.2
  refine mx_aload_n 0 (mx_da t_L_law_1695 11 rfl) rfl rfl rfl rfl ?_
  refine mx_iload 4 (mx_da t_L_law_1695 12 rfl) rfl rfl ?_
  refine mx_iconst (v := 3) (mx_da t_L_law_1695 13 rfl) rfl rfl ?_
  refine mx_iadd (mx_da t_L_law_1695 14 rfl) rfl ?_
  refine mx_sld h.1 (mx_da t_L_law_1695 15 rfl) rfl ?_
  have h := h.2
  refine mx_aload_n 3 (mx_da t_L_law_1695 16 rfl) rfl rfl rfl rfl ?_
  refine mx_callSX yL_reader m_L_reader [.ref 1, .int ((mx_scr M).2 (v4 + 1).toNatClampNeg), .int ((mx_scr M).2 (v4 + 2).toNatClampNeg), .int ((mx_scr M).2 (v4 + 3).toNatClampNeg), .ref 98] mm_L_reader ml_RL_208 st_L_reader rfl (Nat.le_of_ble_eq_true rfl) (mx_da t_L_law_1695 17 rfl) rfl (Nat.le_of_ble_eq_true rfl) rfl ?_
  refine mx_mono h ?_
  intro o M1 ho
  obtain ⟨T1, x2, rfl, h⟩ := ho
  refine ⟨T1.1.trans T.1.symm, ?_⟩
  have T := T1
  clear T1
  show mx_W m_L_law (d + 1) 1718 [.retAddr 1, .ref 1, .ref 58, .ref 98, .int v4, .retAddr 0, .retAddr 0] [.int x2] M1 Q
  refine mx_istore 5 [.retAddr 1, .ref 1, .ref 58, .ref 98, .int v4, .int x2, .retAddr 0] (mx_da t_L_law_1695 18 rfl) rfl (by decide) rfl ?_
  refine mx_aload_n 2 (mx_da t_L_law_1695 19 rfl) rfl rfl rfl rfl ?_
  refine mx_aload_n 0 (mx_da t_L_law_1695 20 rfl) rfl rfl rfl rfl ?_
  refine mx_iload 4 (mx_da t_L_law_1695 21 rfl) rfl rfl ?_
  refine mx_iconst (v := 1) (mx_da t_L_law_1695 22 rfl) rfl rfl ?_
  refine mx_iadd (mx_da t_L_law_1695 23 rfl) rfl ?_
  refine mx_sld h.1 (mx_da t_L_law_1695 24 rfl) rfl ?_
  have h := h.2
  refine mx_aload_n 0 (mx_da t_L_law_1695 25 rfl) rfl rfl rfl rfl ?_
  refine mx_iload 4 (mx_da t_L_law_1695 26 rfl) rfl rfl ?_
  refine mx_iconst (v := 2) (mx_da t_L_law_1695 27 rfl) rfl rfl ?_
  refine mx_iadd (mx_da t_L_law_1695 28 rfl) rfl ?_
  refine mx_sld h.1 (mx_da t_L_law_1695 29 rfl) rfl ?_
  have h := h.2
  refine mx_aload_n 0 (mx_da t_L_law_1695 30 rfl) rfl rfl rfl rfl ?_
  refine mx_iload 4 (mx_da t_L_law_1695 31 rfl) rfl rfl ?_
  refine mx_iconst (v := 3) (mx_da t_L_law_1695 32 rfl) rfl rfl ?_
  refine mx_iadd (mx_da t_L_law_1695 33 rfl) rfl ?_
  refine mx_sld h.1 (mx_da t_L_law_1695 34 rfl) rfl ?_
  have h := h.2
  refine mx_callV yX11_reader m_X11_reader [.int ((mx_scr M1).2 (v4 + 1).toNatClampNeg), .int ((mx_scr M1).2 (v4 + 2).toNatClampNeg), .int ((mx_scr M1).2 (v4 + 3).toNatClampNeg)] mm_X11_reader ml_RL_210 im_X11_reader se_X11_reader (tp_s T 58 rfl) rfl rfl (Nat.le_of_ble_eq_true rfl) (mx_da t_L_law_1695 35 rfl) rfl (Nat.le_of_ble_eq_true rfl) rfl ?_
  refine mx_mono h ?_
  intro o M3 ho
  obtain ⟨T1, x4, rfl, h⟩ := ho
  refine ⟨T1.1.trans T.1.symm, ?_⟩
  have T := T1
  clear T1
  show mx_W m_L_law (d + 1) 1742 [.retAddr 1, .ref 1, .ref 58, .ref 98, .int v4, .int x2, .retAddr 0] [.int x4] M3 Q
  refine mx_istore 6 [.retAddr 1, .ref 1, .ref 58, .ref 98, .int v4, .int x2, .int x4] (mx_da t_L_law_1695 36 rfl) rfl (by decide) rfl ?_
  refine mx_aload_n 2 (mx_da t_L_law_1695 37 rfl) rfl rfl rfl rfl ?_
  refine mx_callV yX11_thrown m_X11_thrown [] mm_X11_thrown ml_RL_117 im_X11_thrown se_X11_thrown (tp_s T 58 rfl) rfl rfl (Nat.le_of_ble_eq_true rfl) (mx_da t_L_law_1695 38 rfl) rfl (Nat.le_of_ble_eq_true rfl) rfl ?_
  refine mx_mono h ?_
  intro o M5 ho
  obtain ⟨T1, x6, rfl, h⟩ := ho
  refine ⟨T1.1.trans T.1.symm, ?_⟩
  have T := T1
  clear T1
  show mx_W m_L_law (d + 1) 1748 [.retAddr 1, .ref 1, .ref 58, .ref 98, .int v4, .int x2, .int x4] [.int x6] M5 Q
  refine mx_iload 5 (mx_da t_L_law_1695 39 rfl) rfl rfl ?_
  refine mx_icmp_eq 1755 (mx_da t_L_law_1695 40 rfl) rfl rfl (fun g9 => ?_) (fun g9 => ?_)
  · have h := h.1 g9
    refine mx_iload 5 (mx_da t_L_law_1695 43 rfl) rfl rfl ?_
    refine mx_if_ne 1772 (mx_da t_L_law_1695 44 rfl) rfl rfl (fun g9 => ?_) (fun g9 => ?_)
    · have h := h.1 g9
      refine mx_goto (n := 2312) (mx_da t_L_law_1695 54 rfl) rfl ?_
      exact mx_wkn [.retAddr 1, .ref 1, .ref 58, .ref 98, .int v4, .retAddr 0, .retAddr 0] ⟨Or.inr rfl, Or.inr rfl, Or.inr rfl, Or.inr rfl, Or.inr rfl, Or.inl rfl, Or.inl rfl, trivial⟩ h
    · have h := h.2 g9
      refine mx_aload_n 3 (mx_da t_L_law_1695 45 rfl) rfl rfl rfl rfl ?_
      refine mx_iconst (v := 0) (mx_da t_L_law_1695 46 rfl) rfl rfl ?_
      refine mx_lald (tp_s T 98 rfl) (mx_vin rfl) (mx_da t_L_law_1695 47 rfl) rfl ?_
      refine mx_iload 6 (mx_da t_L_law_1695 48 rfl) rfl rfl ?_
      refine mx_i2l (mx_da t_L_law_1695 49 rfl) rfl ?_
      refine mx_lcmp (mx_da t_L_law_1695 50 rfl) rfl ?_
      refine mx_if_eq 1772 (mx_da t_L_law_1695 51 rfl) rfl rfl (fun g9 => ?_) (fun g9 => ?_)
      · have h := h.1 (mx_lc0.mp g9)
        refine mx_goto (n := 2312) (mx_da t_L_law_1695 54 rfl) rfl ?_
        exact mx_wkn [.retAddr 1, .ref 1, .ref 58, .ref 98, .int v4, .retAddr 0, .retAddr 0] ⟨Or.inr rfl, Or.inr rfl, Or.inr rfl, Or.inr rfl, Or.inr rfl, Or.inl rfl, Or.inl rfl, trivial⟩ h
      · have h := h.2 (mx_lcn.mp g9)
        refine mx_iconst (v := 0) (mx_da t_L_law_1695 52 rfl) rfl rfl ?_
        exact mx_zret rfl rfl (mx_da t_L_law_1695 53 rfl) h
  · have h := h.2 g9
    refine mx_iconst (v := 0) (mx_da t_L_law_1695 41 rfl) rfl rfl ?_
    exact mx_zret rfl rfl (mx_da t_L_law_1695 42 rfl) h
set_option maxHeartbeats 4000000 in
theorem x_L_law_1775 {d : Nat} {M : mx_M} {Q : mx_O → mx_M → Prop} (T : mx_Tp M) (v4 : Int32)
    (h : (vp_in (v4 + 1) (mx_scr M).1 ∧ (vp_in (v4 + 2) (mx_scr M).1 ∧ (vp_in (v4 + 3) (mx_scr M).1 ∧ (vp_in (v4 + 4) (mx_scr M).1 ∧ (mx_W m_L_game d 0 [.ref 1, .int ((mx_scr M).2 (v4 + 1).toNatClampNeg), .int ((mx_scr M).2 (v4 + 2).toNatClampNeg), .int ((mx_scr M).2 (v4 + 3).toNatClampNeg), .int ((mx_scr M).2 (v4 + 4).toNatClampNeg), .ref 98, .retAddr 0] [] M (fun o M1 => mx_Tp M1 ∧ (∃ x2 : Int32, o = .inl (some (.int x2)) ∧ (vp_in (v4 + 1) (mx_scr M1).1 ∧ (vp_in (v4 + 2) (mx_scr M1).1 ∧ (vp_in (v4 + 3) (mx_scr M1).1 ∧ (vp_in (v4 + 4) (mx_scr M1).1 ∧ (mx_W m_X11_game d 0 [.ref 58, .int ((mx_scr M1).2 (v4 + 1).toNatClampNeg), .int ((mx_scr M1).2 (v4 + 2).toNatClampNeg), .int ((mx_scr M1).2 (v4 + 3).toNatClampNeg), .int ((mx_scr M1).2 (v4 + 4).toNatClampNeg), .retAddr 0, .retAddr 0, .retAddr 0, .retAddr 0, .retAddr 0] [] M1 (fun o M3 => mx_Tp M3 ∧ (∃ x4 : Int32, o = .inl (some (.int x4)) ∧ (mx_W m_X11_thrown d 0 [.ref 58] [] M3 (fun o M5 => mx_Tp M5 ∧ (∃ x6 : Int32, o = .inl (some (.int x6)) ∧ ((x6 = x2 → ((¬ x2 = 0 → mx_W m_L_law (d + 1) 2312 [.retAddr 1, .ref 1, .ref 58, .ref 98, .int v4, .retAddr 0, .retAddr 0] [] M5 Q) ∧ (x2 = 0 → ((mx_J M5 98 0 = x4.toInt64 → mx_W m_L_law (d + 1) 2312 [.retAddr 1, .ref 1, .ref 58, .ref 98, .int v4, .retAddr 0, .retAddr 0] [] M5 Q) ∧ (¬ mx_J M5 98 0 = x4.toInt64 → Q (.inl (some (.int (mx_b false)))) M5))))) ∧ (¬ x6 = x2 → Q (.inl (some (.int (mx_b false)))) M5)))))))))))))))))))) :
    mx_W m_L_law (d + 1) 1775 [.retAddr 1, .ref 1, .ref 58, .ref 98, .int v4, .retAddr 0, .retAddr 0] [] M Q := by
  refine mx_aload_n 1 (mx_da t_L_law_1775 0 rfl) rfl rfl rfl rfl ?_
  refine mx_aload_n 0 (mx_da t_L_law_1775 1 rfl) rfl rfl rfl rfl ?_
  refine mx_iload 4 (mx_da t_L_law_1775 2 rfl) rfl rfl ?_
  refine mx_iconst (v := 1) (mx_da t_L_law_1775 3 rfl) rfl rfl ?_
  refine mx_iadd (mx_da t_L_law_1775 4 rfl) rfl ?_
  refine mx_sld h.1 (mx_da t_L_law_1775 5 rfl) rfl ?_
  have h := h.2
  refine mx_aload_n 0 (mx_da t_L_law_1775 6 rfl) rfl rfl rfl rfl ?_
  refine mx_iload 4 (mx_da t_L_law_1775 7 rfl) rfl rfl ?_
  refine mx_iconst (v := 2) (mx_da t_L_law_1775 8 rfl) rfl rfl ?_
  refine mx_iadd (mx_da t_L_law_1775 9 rfl) rfl ?_
  refine mx_sld h.1 (mx_da t_L_law_1775 10 rfl) rfl ?_
  have h := h.2
  refine mx_aload_n 0 (mx_da t_L_law_1775 11 rfl) rfl rfl rfl rfl ?_
  refine mx_iload 4 (mx_da t_L_law_1775 12 rfl) rfl rfl ?_
  refine mx_iconst (v := 3) (mx_da t_L_law_1775 13 rfl) rfl rfl ?_
  refine mx_iadd (mx_da t_L_law_1775 14 rfl) rfl ?_
  refine mx_sld h.1 (mx_da t_L_law_1775 15 rfl) rfl ?_
  have h := h.2
  refine mx_aload_n 0 (mx_da t_L_law_1775 16 rfl) rfl rfl rfl rfl ?_
  refine mx_iload 4 (mx_da t_L_law_1775 17 rfl) rfl rfl ?_
  refine mx_iconst (v := 4) (mx_da t_L_law_1775 18 rfl) rfl rfl ?_
  refine mx_iadd (mx_da t_L_law_1775 19 rfl) rfl ?_
  refine mx_sld h.1 (mx_da t_L_law_1775 20 rfl) rfl ?_
  have h := h.2
  refine mx_aload_n 3 (mx_da t_L_law_1775 21 rfl) rfl rfl rfl rfl ?_
  refine mx_callSX yL_game m_L_game [.ref 1, .int ((mx_scr M).2 (v4 + 1).toNatClampNeg), .int ((mx_scr M).2 (v4 + 2).toNatClampNeg), .int ((mx_scr M).2 (v4 + 3).toNatClampNeg), .int ((mx_scr M).2 (v4 + 4).toNatClampNeg), .ref 98] mm_L_game ml_RL_211 st_L_game rfl (Nat.le_of_ble_eq_true rfl) (mx_da t_L_law_1775 22 rfl) rfl (Nat.le_of_ble_eq_true rfl) rfl ?_
  refine mx_mono h ?_
  intro o M1 ho
  obtain ⟨T1, x2, rfl, h⟩ := ho
  refine ⟨T1.1.trans T.1.symm, ?_⟩
  have T := T1
  clear T1
  show mx_W m_L_law (d + 1) 1804 [.retAddr 1, .ref 1, .ref 58, .ref 98, .int v4, .retAddr 0, .retAddr 0] [.int x2] M1 Q
  refine mx_istore 5 [.retAddr 1, .ref 1, .ref 58, .ref 98, .int v4, .int x2, .retAddr 0] (mx_da t_L_law_1775 23 rfl) rfl (by decide) rfl ?_
  refine mx_aload_n 2 (mx_da t_L_law_1775 24 rfl) rfl rfl rfl rfl ?_
  refine mx_aload_n 0 (mx_da t_L_law_1775 25 rfl) rfl rfl rfl rfl ?_
  refine mx_iload 4 (mx_da t_L_law_1775 26 rfl) rfl rfl ?_
  refine mx_iconst (v := 1) (mx_da t_L_law_1775 27 rfl) rfl rfl ?_
  refine mx_iadd (mx_da t_L_law_1775 28 rfl) rfl ?_
  refine mx_sld h.1 (mx_da t_L_law_1775 29 rfl) rfl ?_
  have h := h.2
  refine mx_aload_n 0 (mx_da t_L_law_1775 30 rfl) rfl rfl rfl rfl ?_
  refine mx_iload 4 (mx_da t_L_law_1775 31 rfl) rfl rfl ?_
  refine mx_iconst (v := 2) (mx_da t_L_law_1775 32 rfl) rfl rfl ?_
  refine mx_iadd (mx_da t_L_law_1775 33 rfl) rfl ?_
  refine mx_sld h.1 (mx_da t_L_law_1775 34 rfl) rfl ?_
  have h := h.2
  refine mx_aload_n 0 (mx_da t_L_law_1775 35 rfl) rfl rfl rfl rfl ?_
  refine mx_iload 4 (mx_da t_L_law_1775 36 rfl) rfl rfl ?_
  refine mx_iconst (v := 3) (mx_da t_L_law_1775 37 rfl) rfl rfl ?_
  refine mx_iadd (mx_da t_L_law_1775 38 rfl) rfl ?_
  refine mx_sld h.1 (mx_da t_L_law_1775 39 rfl) rfl ?_
  have h := h.2
  refine mx_aload_n 0 (mx_da t_L_law_1775 40 rfl) rfl rfl rfl rfl ?_
  refine mx_iload 4 (mx_da t_L_law_1775 41 rfl) rfl rfl ?_
  refine mx_iconst (v := 4) (mx_da t_L_law_1775 42 rfl) rfl rfl ?_
  refine mx_iadd (mx_da t_L_law_1775 43 rfl) rfl ?_
  refine mx_sld h.1 (mx_da t_L_law_1775 44 rfl) rfl ?_
  have h := h.2
  refine mx_callV yX11_game m_X11_game [.int ((mx_scr M1).2 (v4 + 1).toNatClampNeg), .int ((mx_scr M1).2 (v4 + 2).toNatClampNeg), .int ((mx_scr M1).2 (v4 + 3).toNatClampNeg), .int ((mx_scr M1).2 (v4 + 4).toNatClampNeg)] mm_X11_game ml_RL_214 im_X11_game se_X11_game (tp_s T 58 rfl) rfl rfl (Nat.le_of_ble_eq_true rfl) (mx_da t_L_law_1775 45 rfl) rfl (Nat.le_of_ble_eq_true rfl) rfl ?_
  refine mx_mono h ?_
  intro o M3 ho
  obtain ⟨T1, x4, rfl, h⟩ := ho
  refine ⟨T1.1.trans T.1.symm, ?_⟩
  have T := T1
  clear T1
  show mx_W m_L_law (d + 1) 1834 [.retAddr 1, .ref 1, .ref 58, .ref 98, .int v4, .int x2, .retAddr 0] [.int x4] M3 Q
  refine mx_istore 6 [.retAddr 1, .ref 1, .ref 58, .ref 98, .int v4, .int x2, .int x4] (mx_da t_L_law_1775 46 rfl) rfl (by decide) rfl ?_
  refine mx_aload_n 2 (mx_da t_L_law_1775 47 rfl) rfl rfl rfl rfl ?_
  refine mx_callV yX11_thrown m_X11_thrown [] mm_X11_thrown ml_RL_117 im_X11_thrown se_X11_thrown (tp_s T 58 rfl) rfl rfl (Nat.le_of_ble_eq_true rfl) (mx_da t_L_law_1775 48 rfl) rfl (Nat.le_of_ble_eq_true rfl) rfl ?_
  refine mx_mono h ?_
  intro o M5 ho
  obtain ⟨T1, x6, rfl, h⟩ := ho
  refine ⟨T1.1.trans T.1.symm, ?_⟩
  have T := T1
  clear T1
  show mx_W m_L_law (d + 1) 1840 [.retAddr 1, .ref 1, .ref 58, .ref 98, .int v4, .int x2, .int x4] [.int x6] M5 Q
  refine mx_iload 5 (mx_da t_L_law_1775 49 rfl) rfl rfl ?_
  refine mx_icmp_eq 1847 (mx_da t_L_law_1775 50 rfl) rfl rfl (fun g9 => ?_) (fun g9 => ?_)
  · have h := h.1 g9
    refine mx_iload 5 (mx_da t_L_law_1775 53 rfl) rfl rfl ?_
    refine mx_if_ne 1864 (mx_da t_L_law_1775 54 rfl) rfl rfl (fun g9 => ?_) (fun g9 => ?_)
    · have h := h.1 g9
      refine mx_goto (n := 2312) (mx_da t_L_law_1775 64 rfl) rfl ?_
      exact mx_wkn [.retAddr 1, .ref 1, .ref 58, .ref 98, .int v4, .retAddr 0, .retAddr 0] ⟨Or.inr rfl, Or.inr rfl, Or.inr rfl, Or.inr rfl, Or.inr rfl, Or.inl rfl, Or.inl rfl, trivial⟩ h
    · have h := h.2 g9
      refine mx_aload_n 3 (mx_da t_L_law_1775 55 rfl) rfl rfl rfl rfl ?_
      refine mx_iconst (v := 0) (mx_da t_L_law_1775 56 rfl) rfl rfl ?_
      refine mx_lald (tp_s T 98 rfl) (mx_vin rfl) (mx_da t_L_law_1775 57 rfl) rfl ?_
      refine mx_iload 6 (mx_da t_L_law_1775 58 rfl) rfl rfl ?_
      refine mx_i2l (mx_da t_L_law_1775 59 rfl) rfl ?_
      refine mx_lcmp (mx_da t_L_law_1775 60 rfl) rfl ?_
      refine mx_if_eq 1864 (mx_da t_L_law_1775 61 rfl) rfl rfl (fun g9 => ?_) (fun g9 => ?_)
      · have h := h.1 (mx_lc0.mp g9)
        refine mx_goto (n := 2312) (mx_da t_L_law_1775 64 rfl) rfl ?_
        exact mx_wkn [.retAddr 1, .ref 1, .ref 58, .ref 98, .int v4, .retAddr 0, .retAddr 0] ⟨Or.inr rfl, Or.inr rfl, Or.inr rfl, Or.inr rfl, Or.inr rfl, Or.inl rfl, Or.inl rfl, trivial⟩ h
      · have h := h.2 (mx_lcn.mp g9)
        refine mx_iconst (v := 0) (mx_da t_L_law_1775 62 rfl) rfl rfl ?_
        exact mx_zret rfl rfl (mx_da t_L_law_1775 63 rfl) h
  · have h := h.2 g9
    refine mx_iconst (v := 0) (mx_da t_L_law_1775 51 rfl) rfl rfl ?_
    exact mx_zret rfl rfl (mx_da t_L_law_1775 52 rfl) h
set_option maxHeartbeats 4000000 in
theorem x_L_law_1867 {d : Nat} {M : mx_M} {Q : mx_O → mx_M → Prop} (T : mx_Tp M) (v4 : Int32)
    (h : (vp_in (v4 + 1) (mx_scr M).1 ∧ (vp_in (v4 + 2) (mx_scr M).1 ∧ (vp_in (v4 + 3) (mx_scr M).1 ∧ (mx_W m_L_years d 0 [.ref 1, .int ((mx_scr M).2 (v4 + 1).toNatClampNeg), .int ((mx_scr M).2 (v4 + 2).toNatClampNeg), .int ((mx_scr M).2 (v4 + 3).toNatClampNeg), .ref 98, .retAddr 0] [] M (fun o M1 => mx_Tp M1 ∧ (∃ x2 : Int32, o = .inl (some (.int x2)) ∧ (vp_in (v4 + 1) (mx_scr M1).1 ∧ (vp_in (v4 + 2) (mx_scr M1).1 ∧ (vp_in (v4 + 3) (mx_scr M1).1 ∧ (mx_W m_X11_years d 0 [.ref 58, .int ((mx_scr M1).2 (v4 + 1).toNatClampNeg), .int ((mx_scr M1).2 (v4 + 2).toNatClampNeg), .int ((mx_scr M1).2 (v4 + 3).toNatClampNeg), .retAddr 0, .retAddr 0, .retAddr 0, .retAddr 0, .retAddr 0] [] M1 (fun o M3 => mx_Tp M3 ∧ (∃ x4 : Int32, o = .inl (some (.int x4)) ∧ (mx_W m_X11_thrown d 0 [.ref 58] [] M3 (fun o M5 => mx_Tp M5 ∧ (∃ x6 : Int32, o = .inl (some (.int x6)) ∧ ((x6 = x2 → ((¬ x2 = 0 → mx_W m_L_law (d + 1) 2312 [.retAddr 1, .ref 1, .ref 58, .ref 98, .int v4, .retAddr 0, .retAddr 0] [] M5 Q) ∧ (x2 = 0 → ((mx_J M5 98 0 = x4.toInt64 → mx_W m_L_law (d + 1) 2312 [.retAddr 1, .ref 1, .ref 58, .ref 98, .int v4, .retAddr 0, .retAddr 0] [] M5 Q) ∧ (¬ mx_J M5 98 0 = x4.toInt64 → Q (.inl (some (.int (mx_b false)))) M5))))) ∧ (¬ x6 = x2 → Q (.inl (some (.int (mx_b false)))) M5)))))))))))))))))) :
    mx_W m_L_law (d + 1) 1867 [.retAddr 1, .ref 1, .ref 58, .ref 98, .int v4, .retAddr 0, .retAddr 0] [] M Q := by
  refine mx_aload_n 1 (mx_da t_L_law_1867 0 rfl) rfl rfl rfl rfl ?_
  refine mx_aload_n 0 (mx_da t_L_law_1867 1 rfl) rfl rfl rfl rfl ?_
  refine mx_iload 4 (mx_da t_L_law_1867 2 rfl) rfl rfl ?_
  refine mx_iconst (v := 1) (mx_da t_L_law_1867 3 rfl) rfl rfl ?_
  refine mx_iadd (mx_da t_L_law_1867 4 rfl) rfl ?_
  refine mx_sld h.1 (mx_da t_L_law_1867 5 rfl) rfl ?_
  have h := h.2
  refine mx_aload_n 0 (mx_da t_L_law_1867 6 rfl) rfl rfl rfl rfl ?_
  refine mx_iload 4 (mx_da t_L_law_1867 7 rfl) rfl rfl ?_
  refine mx_iconst (v := 2) (mx_da t_L_law_1867 8 rfl) rfl rfl ?_
  refine mx_iadd (mx_da t_L_law_1867 9 rfl) rfl ?_
  refine mx_sld h.1 (mx_da t_L_law_1867 10 rfl) rfl ?_
  have h := h.2
  refine mx_aload_n 0 (mx_da t_L_law_1867 11 rfl) rfl rfl rfl rfl ?_
  refine mx_iload 4 (mx_da t_L_law_1867 12 rfl) rfl rfl ?_
  refine mx_iconst (v := 3) (mx_da t_L_law_1867 13 rfl) rfl rfl ?_
  refine mx_iadd (mx_da t_L_law_1867 14 rfl) rfl ?_
  refine mx_sld h.1 (mx_da t_L_law_1867 15 rfl) rfl ?_
  have h := h.2
  refine mx_aload_n 3 (mx_da t_L_law_1867 16 rfl) rfl rfl rfl rfl ?_
  refine mx_callSX yL_years m_L_years [.ref 1, .int ((mx_scr M).2 (v4 + 1).toNatClampNeg), .int ((mx_scr M).2 (v4 + 2).toNatClampNeg), .int ((mx_scr M).2 (v4 + 3).toNatClampNeg), .ref 98] mm_L_years ml_RL_215 st_L_years rfl (Nat.le_of_ble_eq_true rfl) (mx_da t_L_law_1867 17 rfl) rfl (Nat.le_of_ble_eq_true rfl) rfl ?_
  refine mx_mono h ?_
  intro o M1 ho
  obtain ⟨T1, x2, rfl, h⟩ := ho
  refine ⟨T1.1.trans T.1.symm, ?_⟩
  have T := T1
  clear T1
  show mx_W m_L_law (d + 1) 1890 [.retAddr 1, .ref 1, .ref 58, .ref 98, .int v4, .retAddr 0, .retAddr 0] [.int x2] M1 Q
  refine mx_istore 5 [.retAddr 1, .ref 1, .ref 58, .ref 98, .int v4, .int x2, .retAddr 0] (mx_da t_L_law_1867 18 rfl) rfl (by decide) rfl ?_
  refine mx_aload_n 2 (mx_da t_L_law_1867 19 rfl) rfl rfl rfl rfl ?_
  refine mx_aload_n 0 (mx_da t_L_law_1867 20 rfl) rfl rfl rfl rfl ?_
  refine mx_iload 4 (mx_da t_L_law_1867 21 rfl) rfl rfl ?_
  refine mx_iconst (v := 1) (mx_da t_L_law_1867 22 rfl) rfl rfl ?_
  refine mx_iadd (mx_da t_L_law_1867 23 rfl) rfl ?_
  refine mx_sld h.1 (mx_da t_L_law_1867 24 rfl) rfl ?_
  have h := h.2
  refine mx_aload_n 0 (mx_da t_L_law_1867 25 rfl) rfl rfl rfl rfl ?_
  refine mx_iload 4 (mx_da t_L_law_1867 26 rfl) rfl rfl ?_
  refine mx_iconst (v := 2) (mx_da t_L_law_1867 27 rfl) rfl rfl ?_
  refine mx_iadd (mx_da t_L_law_1867 28 rfl) rfl ?_
  refine mx_sld h.1 (mx_da t_L_law_1867 29 rfl) rfl ?_
  have h := h.2
  refine mx_aload_n 0 (mx_da t_L_law_1867 30 rfl) rfl rfl rfl rfl ?_
  refine mx_iload 4 (mx_da t_L_law_1867 31 rfl) rfl rfl ?_
  refine mx_iconst (v := 3) (mx_da t_L_law_1867 32 rfl) rfl rfl ?_
  refine mx_iadd (mx_da t_L_law_1867 33 rfl) rfl ?_
  refine mx_sld h.1 (mx_da t_L_law_1867 34 rfl) rfl ?_
  have h := h.2
  refine mx_callV yX11_years m_X11_years [.int ((mx_scr M1).2 (v4 + 1).toNatClampNeg), .int ((mx_scr M1).2 (v4 + 2).toNatClampNeg), .int ((mx_scr M1).2 (v4 + 3).toNatClampNeg)] mm_X11_years ml_RL_217 im_X11_years se_X11_years (tp_s T 58 rfl) rfl rfl (Nat.le_of_ble_eq_true rfl) (mx_da t_L_law_1867 35 rfl) rfl (Nat.le_of_ble_eq_true rfl) rfl ?_
  refine mx_mono h ?_
  intro o M3 ho
  obtain ⟨T1, x4, rfl, h⟩ := ho
  refine ⟨T1.1.trans T.1.symm, ?_⟩
  have T := T1
  clear T1
  show mx_W m_L_law (d + 1) 1914 [.retAddr 1, .ref 1, .ref 58, .ref 98, .int v4, .int x2, .retAddr 0] [.int x4] M3 Q
  refine mx_istore 6 [.retAddr 1, .ref 1, .ref 58, .ref 98, .int v4, .int x2, .int x4] (mx_da t_L_law_1867 36 rfl) rfl (by decide) rfl ?_
  refine mx_aload_n 2 (mx_da t_L_law_1867 37 rfl) rfl rfl rfl rfl ?_
  refine mx_callV yX11_thrown m_X11_thrown [] mm_X11_thrown ml_RL_117 im_X11_thrown se_X11_thrown (tp_s T 58 rfl) rfl rfl (Nat.le_of_ble_eq_true rfl) (mx_da t_L_law_1867 38 rfl) rfl (Nat.le_of_ble_eq_true rfl) rfl ?_
  refine mx_mono h ?_
  intro o M5 ho
  obtain ⟨T1, x6, rfl, h⟩ := ho
  refine ⟨T1.1.trans T.1.symm, ?_⟩
  have T := T1
  clear T1
  show mx_W m_L_law (d + 1) 1920 [.retAddr 1, .ref 1, .ref 58, .ref 98, .int v4, .int x2, .int x4] [.int x6] M5 Q
  refine mx_iload 5 (mx_da t_L_law_1867 39 rfl) rfl rfl ?_
  refine mx_icmp_eq 1927 (mx_da t_L_law_1867 40 rfl) rfl rfl (fun g9 => ?_) (fun g9 => ?_)
  · have h := h.1 g9
    refine mx_iload 5 (mx_da t_L_law_1867 43 rfl) rfl rfl ?_
    refine mx_if_ne 1944 (mx_da t_L_law_1867 44 rfl) rfl rfl (fun g9 => ?_) (fun g9 => ?_)
    · have h := h.1 g9
      refine mx_goto (n := 2312) (mx_da t_L_law_1867 54 rfl) rfl ?_
      exact mx_wkn [.retAddr 1, .ref 1, .ref 58, .ref 98, .int v4, .retAddr 0, .retAddr 0] ⟨Or.inr rfl, Or.inr rfl, Or.inr rfl, Or.inr rfl, Or.inr rfl, Or.inl rfl, Or.inl rfl, trivial⟩ h
    · have h := h.2 g9
      refine mx_aload_n 3 (mx_da t_L_law_1867 45 rfl) rfl rfl rfl rfl ?_
      refine mx_iconst (v := 0) (mx_da t_L_law_1867 46 rfl) rfl rfl ?_
      refine mx_lald (tp_s T 98 rfl) (mx_vin rfl) (mx_da t_L_law_1867 47 rfl) rfl ?_
      refine mx_iload 6 (mx_da t_L_law_1867 48 rfl) rfl rfl ?_
      refine mx_i2l (mx_da t_L_law_1867 49 rfl) rfl ?_
      refine mx_lcmp (mx_da t_L_law_1867 50 rfl) rfl ?_
      refine mx_if_eq 1944 (mx_da t_L_law_1867 51 rfl) rfl rfl (fun g9 => ?_) (fun g9 => ?_)
      · have h := h.1 (mx_lc0.mp g9)
        refine mx_goto (n := 2312) (mx_da t_L_law_1867 54 rfl) rfl ?_
        exact mx_wkn [.retAddr 1, .ref 1, .ref 58, .ref 98, .int v4, .retAddr 0, .retAddr 0] ⟨Or.inr rfl, Or.inr rfl, Or.inr rfl, Or.inr rfl, Or.inr rfl, Or.inl rfl, Or.inl rfl, trivial⟩ h
      · have h := h.2 (mx_lcn.mp g9)
        refine mx_iconst (v := 0) (mx_da t_L_law_1867 52 rfl) rfl rfl ?_
        exact mx_zret rfl rfl (mx_da t_L_law_1867 53 rfl) h
  · have h := h.2 g9
    refine mx_iconst (v := 0) (mx_da t_L_law_1867 41 rfl) rfl rfl ?_
    exact mx_zret rfl rfl (mx_da t_L_law_1867 42 rfl) h
set_option maxHeartbeats 4000000 in
theorem x_L_law_1947 {d : Nat} {M : mx_M} {Q : mx_O → mx_M → Prop} (T : mx_Tp M) (v4 : Int32)
    (h : (vp_in (v4 + 1) (mx_scr M).1 ∧ (mx_W m_L_compromise d 0 [.ref 1, .int ((mx_scr M).2 (v4 + 1).toNatClampNeg), .ref 98, .retAddr 0] [] M (fun o M1 => mx_Tp M1 ∧ (∃ x2 : Int32, o = .inl (some (.int x2)) ∧ (vp_in (v4 + 1) (mx_scr M1).1 ∧ (mx_W m_X11_compromise d 0 [.ref 58, .int ((mx_scr M1).2 (v4 + 1).toNatClampNeg), .retAddr 0, .retAddr 0, .retAddr 0] [] M1 (fun o M3 => mx_Tp M3 ∧ (∃ x4 : Int32, o = .inl (some (.int x4)) ∧ (mx_W m_X11_thrown d 0 [.ref 58] [] M3 (fun o M5 => mx_Tp M5 ∧ (∃ x6 : Int32, o = .inl (some (.int x6)) ∧ ((x6 = x2 → ((¬ x2 = 0 → mx_W m_L_law (d + 1) 2312 [.retAddr 1, .ref 1, .ref 58, .ref 98, .int v4, .retAddr 0, .retAddr 0] [] M5 Q) ∧ (x2 = 0 → ((mx_J M5 98 0 = x4.toInt64 → mx_W m_L_law (d + 1) 2312 [.retAddr 1, .ref 1, .ref 58, .ref 98, .int v4, .retAddr 0, .retAddr 0] [] M5 Q) ∧ (¬ mx_J M5 98 0 = x4.toInt64 → Q (.inl (some (.int (mx_b false)))) M5))))) ∧ (¬ x6 = x2 → Q (.inl (some (.int (mx_b false)))) M5)))))))))))))) :
    mx_W m_L_law (d + 1) 1947 [.retAddr 1, .ref 1, .ref 58, .ref 98, .int v4, .retAddr 0, .retAddr 0] [] M Q := by
  refine mx_aload_n 1 (mx_da t_L_law_1947 0 rfl) rfl rfl rfl rfl ?_
  refine mx_aload_n 0 (mx_da t_L_law_1947 1 rfl) rfl rfl rfl rfl ?_
  refine mx_iload 4 (mx_da t_L_law_1947 2 rfl) rfl rfl ?_
  refine mx_iconst (v := 1) (mx_da t_L_law_1947 3 rfl) rfl rfl ?_
  refine mx_iadd (mx_da t_L_law_1947 4 rfl) rfl ?_
  refine mx_sld h.1 (mx_da t_L_law_1947 5 rfl) rfl ?_
  have h := h.2
  refine mx_aload_n 3 (mx_da t_L_law_1947 6 rfl) rfl rfl rfl rfl ?_
  refine mx_callSX yL_compromise m_L_compromise [.ref 1, .int ((mx_scr M).2 (v4 + 1).toNatClampNeg), .ref 98] mm_L_compromise ml_RL_218 st_L_compromise rfl (Nat.le_of_ble_eq_true rfl) (mx_da t_L_law_1947 7 rfl) rfl (Nat.le_of_ble_eq_true rfl) rfl ?_
  refine mx_mono h ?_
  intro o M1 ho
  obtain ⟨T1, x2, rfl, h⟩ := ho
  refine ⟨T1.1.trans T.1.symm, ?_⟩
  have T := T1
  clear T1
  show mx_W m_L_law (d + 1) 1958 [.retAddr 1, .ref 1, .ref 58, .ref 98, .int v4, .retAddr 0, .retAddr 0] [.int x2] M1 Q
  refine mx_istore 5 [.retAddr 1, .ref 1, .ref 58, .ref 98, .int v4, .int x2, .retAddr 0] (mx_da t_L_law_1947 8 rfl) rfl (by decide) rfl ?_
  refine mx_aload_n 2 (mx_da t_L_law_1947 9 rfl) rfl rfl rfl rfl ?_
  refine mx_aload_n 0 (mx_da t_L_law_1947 10 rfl) rfl rfl rfl rfl ?_
  refine mx_iload 4 (mx_da t_L_law_1947 11 rfl) rfl rfl ?_
  refine mx_iconst (v := 1) (mx_da t_L_law_1947 12 rfl) rfl rfl ?_
  refine mx_iadd (mx_da t_L_law_1947 13 rfl) rfl ?_
  refine mx_sld h.1 (mx_da t_L_law_1947 14 rfl) rfl ?_
  have h := h.2
  refine mx_callV yX11_compromise m_X11_compromise [.int ((mx_scr M1).2 (v4 + 1).toNatClampNeg)] mm_X11_compromise ml_RL_220 im_X11_compromise se_X11_compromise (tp_s T 58 rfl) rfl rfl (Nat.le_of_ble_eq_true rfl) (mx_da t_L_law_1947 15 rfl) rfl (Nat.le_of_ble_eq_true rfl) rfl ?_
  refine mx_mono h ?_
  intro o M3 ho
  obtain ⟨T1, x4, rfl, h⟩ := ho
  refine ⟨T1.1.trans T.1.symm, ?_⟩
  have T := T1
  clear T1
  show mx_W m_L_law (d + 1) 1970 [.retAddr 1, .ref 1, .ref 58, .ref 98, .int v4, .int x2, .retAddr 0] [.int x4] M3 Q
  refine mx_istore 6 [.retAddr 1, .ref 1, .ref 58, .ref 98, .int v4, .int x2, .int x4] (mx_da t_L_law_1947 16 rfl) rfl (by decide) rfl ?_
  refine mx_aload_n 2 (mx_da t_L_law_1947 17 rfl) rfl rfl rfl rfl ?_
  refine mx_callV yX11_thrown m_X11_thrown [] mm_X11_thrown ml_RL_117 im_X11_thrown se_X11_thrown (tp_s T 58 rfl) rfl rfl (Nat.le_of_ble_eq_true rfl) (mx_da t_L_law_1947 18 rfl) rfl (Nat.le_of_ble_eq_true rfl) rfl ?_
  refine mx_mono h ?_
  intro o M5 ho
  obtain ⟨T1, x6, rfl, h⟩ := ho
  refine ⟨T1.1.trans T.1.symm, ?_⟩
  have T := T1
  clear T1
  show mx_W m_L_law (d + 1) 1976 [.retAddr 1, .ref 1, .ref 58, .ref 98, .int v4, .int x2, .int x4] [.int x6] M5 Q
  refine mx_iload 5 (mx_da t_L_law_1947 19 rfl) rfl rfl ?_
  refine mx_icmp_eq 1983 (mx_da t_L_law_1947 20 rfl) rfl rfl (fun g9 => ?_) (fun g9 => ?_)
  · have h := h.1 g9
    refine mx_iload 5 (mx_da t_L_law_1947 23 rfl) rfl rfl ?_
    refine mx_if_ne 2000 (mx_da t_L_law_1947 24 rfl) rfl rfl (fun g9 => ?_) (fun g9 => ?_)
    · have h := h.1 g9
      refine mx_goto (n := 2312) (mx_da t_L_law_1947 34 rfl) rfl ?_
      exact mx_wkn [.retAddr 1, .ref 1, .ref 58, .ref 98, .int v4, .retAddr 0, .retAddr 0] ⟨Or.inr rfl, Or.inr rfl, Or.inr rfl, Or.inr rfl, Or.inr rfl, Or.inl rfl, Or.inl rfl, trivial⟩ h
    · have h := h.2 g9
      refine mx_aload_n 3 (mx_da t_L_law_1947 25 rfl) rfl rfl rfl rfl ?_
      refine mx_iconst (v := 0) (mx_da t_L_law_1947 26 rfl) rfl rfl ?_
      refine mx_lald (tp_s T 98 rfl) (mx_vin rfl) (mx_da t_L_law_1947 27 rfl) rfl ?_
      refine mx_iload 6 (mx_da t_L_law_1947 28 rfl) rfl rfl ?_
      refine mx_i2l (mx_da t_L_law_1947 29 rfl) rfl ?_
      refine mx_lcmp (mx_da t_L_law_1947 30 rfl) rfl ?_
      refine mx_if_eq 2000 (mx_da t_L_law_1947 31 rfl) rfl rfl (fun g9 => ?_) (fun g9 => ?_)
      · have h := h.1 (mx_lc0.mp g9)
        refine mx_goto (n := 2312) (mx_da t_L_law_1947 34 rfl) rfl ?_
        exact mx_wkn [.retAddr 1, .ref 1, .ref 58, .ref 98, .int v4, .retAddr 0, .retAddr 0] ⟨Or.inr rfl, Or.inr rfl, Or.inr rfl, Or.inr rfl, Or.inr rfl, Or.inl rfl, Or.inl rfl, trivial⟩ h
      · have h := h.2 (mx_lcn.mp g9)
        refine mx_iconst (v := 0) (mx_da t_L_law_1947 32 rfl) rfl rfl ?_
        exact mx_zret rfl rfl (mx_da t_L_law_1947 33 rfl) h
  · have h := h.2 g9
    refine mx_iconst (v := 0) (mx_da t_L_law_1947 21 rfl) rfl rfl ?_
    exact mx_zret rfl rfl (mx_da t_L_law_1947 22 rfl) h
set_option maxHeartbeats 4000000 in
theorem x_L_law_2003 {d : Nat} {M : mx_M} {Q : mx_O → mx_M → Prop} (T : mx_Tp M) (v4 : Int32)
    (h : (mx_W m_X10_agreed d 0 [.ref 1, .retAddr 0, .retAddr 0, .retAddr 0, .retAddr 0] [] M (fun o M1 => mx_Tp M1 ∧ (∃ x2 : Int32, o = .inl (some (.int x2)) ∧ (mx_W m_X11_agreed d 0 [.ref 58, .retAddr 0, .retAddr 0, .retAddr 0, .retAddr 0] [] M1 (fun o M3 => mx_Tp M3 ∧ (∃ x4 : Int32, o = .inl (some (.int x4)) ∧ ((x2 = x4 → mx_W m_L_law (d + 1) 2312 [.retAddr 1, .ref 1, .ref 58, .ref 98, .int v4, .retAddr 0, .retAddr 0] [] M3 Q) ∧ (¬ x2 = x4 → Q (.inl (some (.int (mx_b false)))) M3))))))))) :
    mx_W m_L_law (d + 1) 2003 [.retAddr 1, .ref 1, .ref 58, .ref 98, .int v4, .retAddr 0, .retAddr 0] [] M Q := by
  refine mx_aload_n 1 (mx_da t_L_law_2003 0 rfl) rfl rfl rfl rfl ?_
  refine mx_callV yX10_agreed m_X10_agreed [] mm_X10_agreed ml_RL_221 im_X10_agreed se_X10_agreed (tp_s T 1 rfl) rfl rfl (Nat.le_of_ble_eq_true rfl) (mx_da t_L_law_2003 1 rfl) rfl (Nat.le_of_ble_eq_true rfl) rfl ?_
  refine mx_mono h ?_
  intro o M1 ho
  obtain ⟨T1, x2, rfl, h⟩ := ho
  refine ⟨T1.1.trans T.1.symm, ?_⟩
  have T := T1
  clear T1
  show mx_W m_L_law (d + 1) 2007 [.retAddr 1, .ref 1, .ref 58, .ref 98, .int v4, .retAddr 0, .retAddr 0] [.int x2] M1 Q
  refine mx_aload_n 2 (mx_da t_L_law_2003 2 rfl) rfl rfl rfl rfl ?_
  refine mx_callV yX11_agreed m_X11_agreed [] mm_X11_agreed ml_RL_224 im_X11_agreed se_X11_agreed (tp_s T 58 rfl) rfl rfl (Nat.le_of_ble_eq_true rfl) (mx_da t_L_law_2003 3 rfl) rfl (Nat.le_of_ble_eq_true rfl) rfl ?_
  refine mx_mono h ?_
  intro o M3 ho
  obtain ⟨T1, x4, rfl, h⟩ := ho
  refine ⟨T1.1.trans T.1.symm, ?_⟩
  have T := T1
  clear T1
  show mx_W m_L_law (d + 1) 2011 [.retAddr 1, .ref 1, .ref 58, .ref 98, .int v4, .retAddr 0, .retAddr 0] [.int x4, .int x2] M3 Q
  refine mx_icmp_eq 2312 (mx_da t_L_law_2003 4 rfl) rfl rfl (fun g9 => ?_) (fun g9 => ?_)
  · have h := h.1 g9
    exact h
  · have h := h.2 g9
    refine mx_iconst (v := 0) (mx_da t_L_law_2003 5 rfl) rfl rfl ?_
    exact mx_zret rfl rfl (mx_da t_L_law_2003 6 rfl) h
set_option maxHeartbeats 4000000 in
theorem x_L_law_2016 {d : Nat} {M : mx_M} {Q : mx_O → mx_M → Prop} (T : mx_Tp M) (v4 : Int32)
    (h : (vp_in (v4 + 1) (mx_scr M).1 ∧ (mx_W m_L_closest d 0 [.ref 1, .int ((mx_scr M).2 (v4 + 1).toNatClampNeg), .ref 98, .retAddr 0] [] M (fun o M1 => mx_Tp M1 ∧ (∃ x2 : Int32, o = .inl (some (.int x2)) ∧ (vp_in (v4 + 1) (mx_scr M1).1 ∧ (mx_W m_X11_closest d 0 [.ref 58, .int ((mx_scr M1).2 (v4 + 1).toNatClampNeg), .retAddr 0, .retAddr 0, .retAddr 0, .retAddr 0, .retAddr 0, .retAddr 0, .retAddr 0] [] M1 (fun o M3 => mx_Tp M3 ∧ (∃ x4 : Int32, o = .inl (some (.int x4)) ∧ (mx_W m_X11_thrown d 0 [.ref 58] [] M3 (fun o M5 => mx_Tp M5 ∧ (∃ x6 : Int32, o = .inl (some (.int x6)) ∧ ((x6 = x2 → ((¬ x2 = 0 → mx_W m_L_law (d + 1) 2312 [.retAddr 1, .ref 1, .ref 58, .ref 98, .int v4, .retAddr 0, .retAddr 0] [] M5 Q) ∧ (x2 = 0 → ((mx_J M5 98 0 = x4.toInt64 → mx_W m_L_law (d + 1) 2312 [.retAddr 1, .ref 1, .ref 58, .ref 98, .int v4, .retAddr 0, .retAddr 0] [] M5 Q) ∧ (¬ mx_J M5 98 0 = x4.toInt64 → Q (.inl (some (.int (mx_b false)))) M5))))) ∧ (¬ x6 = x2 → Q (.inl (some (.int (mx_b false)))) M5)))))))))))))) :
    mx_W m_L_law (d + 1) 2016 [.retAddr 1, .ref 1, .ref 58, .ref 98, .int v4, .retAddr 0, .retAddr 0] [] M Q := by
  refine mx_aload_n 1 (mx_da t_L_law_2016 0 rfl) rfl rfl rfl rfl ?_
  refine mx_aload_n 0 (mx_da t_L_law_2016 1 rfl) rfl rfl rfl rfl ?_
  refine mx_iload 4 (mx_da t_L_law_2016 2 rfl) rfl rfl ?_
  refine mx_iconst (v := 1) (mx_da t_L_law_2016 3 rfl) rfl rfl ?_
  refine mx_iadd (mx_da t_L_law_2016 4 rfl) rfl ?_
  refine mx_sld h.1 (mx_da t_L_law_2016 5 rfl) rfl ?_
  have h := h.2
  refine mx_aload_n 3 (mx_da t_L_law_2016 6 rfl) rfl rfl rfl rfl ?_
  refine mx_callSX yL_closest m_L_closest [.ref 1, .int ((mx_scr M).2 (v4 + 1).toNatClampNeg), .ref 98] mm_L_closest ml_RL_225 st_L_closest rfl (Nat.le_of_ble_eq_true rfl) (mx_da t_L_law_2016 7 rfl) rfl (Nat.le_of_ble_eq_true rfl) rfl ?_
  refine mx_mono h ?_
  intro o M1 ho
  obtain ⟨T1, x2, rfl, h⟩ := ho
  refine ⟨T1.1.trans T.1.symm, ?_⟩
  have T := T1
  clear T1
  show mx_W m_L_law (d + 1) 2027 [.retAddr 1, .ref 1, .ref 58, .ref 98, .int v4, .retAddr 0, .retAddr 0] [.int x2] M1 Q
  refine mx_istore 5 [.retAddr 1, .ref 1, .ref 58, .ref 98, .int v4, .int x2, .retAddr 0] (mx_da t_L_law_2016 8 rfl) rfl (by decide) rfl ?_
  refine mx_aload_n 2 (mx_da t_L_law_2016 9 rfl) rfl rfl rfl rfl ?_
  refine mx_aload_n 0 (mx_da t_L_law_2016 10 rfl) rfl rfl rfl rfl ?_
  refine mx_iload 4 (mx_da t_L_law_2016 11 rfl) rfl rfl ?_
  refine mx_iconst (v := 1) (mx_da t_L_law_2016 12 rfl) rfl rfl ?_
  refine mx_iadd (mx_da t_L_law_2016 13 rfl) rfl ?_
  refine mx_sld h.1 (mx_da t_L_law_2016 14 rfl) rfl ?_
  have h := h.2
  refine mx_callV yX11_closest m_X11_closest [.int ((mx_scr M1).2 (v4 + 1).toNatClampNeg)] mm_X11_closest ml_RL_227 im_X11_closest se_X11_closest (tp_s T 58 rfl) rfl rfl (Nat.le_of_ble_eq_true rfl) (mx_da t_L_law_2016 15 rfl) rfl (Nat.le_of_ble_eq_true rfl) rfl ?_
  refine mx_mono h ?_
  intro o M3 ho
  obtain ⟨T1, x4, rfl, h⟩ := ho
  refine ⟨T1.1.trans T.1.symm, ?_⟩
  have T := T1
  clear T1
  show mx_W m_L_law (d + 1) 2039 [.retAddr 1, .ref 1, .ref 58, .ref 98, .int v4, .int x2, .retAddr 0] [.int x4] M3 Q
  refine mx_istore 6 [.retAddr 1, .ref 1, .ref 58, .ref 98, .int v4, .int x2, .int x4] (mx_da t_L_law_2016 16 rfl) rfl (by decide) rfl ?_
  refine mx_aload_n 2 (mx_da t_L_law_2016 17 rfl) rfl rfl rfl rfl ?_
  refine mx_callV yX11_thrown m_X11_thrown [] mm_X11_thrown ml_RL_117 im_X11_thrown se_X11_thrown (tp_s T 58 rfl) rfl rfl (Nat.le_of_ble_eq_true rfl) (mx_da t_L_law_2016 18 rfl) rfl (Nat.le_of_ble_eq_true rfl) rfl ?_
  refine mx_mono h ?_
  intro o M5 ho
  obtain ⟨T1, x6, rfl, h⟩ := ho
  refine ⟨T1.1.trans T.1.symm, ?_⟩
  have T := T1
  clear T1
  show mx_W m_L_law (d + 1) 2045 [.retAddr 1, .ref 1, .ref 58, .ref 98, .int v4, .int x2, .int x4] [.int x6] M5 Q
  refine mx_iload 5 (mx_da t_L_law_2016 19 rfl) rfl rfl ?_
  refine mx_icmp_eq 2052 (mx_da t_L_law_2016 20 rfl) rfl rfl (fun g9 => ?_) (fun g9 => ?_)
  · have h := h.1 g9
    refine mx_iload 5 (mx_da t_L_law_2016 23 rfl) rfl rfl ?_
    refine mx_if_ne 2069 (mx_da t_L_law_2016 24 rfl) rfl rfl (fun g9 => ?_) (fun g9 => ?_)
    · have h := h.1 g9
      refine mx_goto (n := 2312) (mx_da t_L_law_2016 34 rfl) rfl ?_
      exact mx_wkn [.retAddr 1, .ref 1, .ref 58, .ref 98, .int v4, .retAddr 0, .retAddr 0] ⟨Or.inr rfl, Or.inr rfl, Or.inr rfl, Or.inr rfl, Or.inr rfl, Or.inl rfl, Or.inl rfl, trivial⟩ h
    · have h := h.2 g9
      refine mx_aload_n 3 (mx_da t_L_law_2016 25 rfl) rfl rfl rfl rfl ?_
      refine mx_iconst (v := 0) (mx_da t_L_law_2016 26 rfl) rfl rfl ?_
      refine mx_lald (tp_s T 98 rfl) (mx_vin rfl) (mx_da t_L_law_2016 27 rfl) rfl ?_
      refine mx_iload 6 (mx_da t_L_law_2016 28 rfl) rfl rfl ?_
      refine mx_i2l (mx_da t_L_law_2016 29 rfl) rfl ?_
      refine mx_lcmp (mx_da t_L_law_2016 30 rfl) rfl ?_
      refine mx_if_eq 2069 (mx_da t_L_law_2016 31 rfl) rfl rfl (fun g9 => ?_) (fun g9 => ?_)
      · have h := h.1 (mx_lc0.mp g9)
        refine mx_goto (n := 2312) (mx_da t_L_law_2016 34 rfl) rfl ?_
        exact mx_wkn [.retAddr 1, .ref 1, .ref 58, .ref 98, .int v4, .retAddr 0, .retAddr 0] ⟨Or.inr rfl, Or.inr rfl, Or.inr rfl, Or.inr rfl, Or.inr rfl, Or.inl rfl, Or.inl rfl, trivial⟩ h
      · have h := h.2 (mx_lcn.mp g9)
        refine mx_iconst (v := 0) (mx_da t_L_law_2016 32 rfl) rfl rfl ?_
        exact mx_zret rfl rfl (mx_da t_L_law_2016 33 rfl) h
  · have h := h.2 g9
    refine mx_iconst (v := 0) (mx_da t_L_law_2016 21 rfl) rfl rfl ?_
    exact mx_zret rfl rfl (mx_da t_L_law_2016 22 rfl) h
set_option maxHeartbeats 4000000 in
theorem x_L_law_2072 {d : Nat} {M : mx_M} {Q : mx_O → mx_M → Prop} (T : mx_Tp M) (v4 : Int32)
    (h : (vp_in (v4 + 1) (mx_scr M).1 ∧ (vp_in (v4 + 2) (mx_scr M).1 ∧ (mx_W m_L_off d 0 [.ref 1, .int ((mx_scr M).2 (v4 + 1).toNatClampNeg), .int ((mx_scr M).2 (v4 + 2).toNatClampNeg), .ref 98, .retAddr 0] [] M (fun o M1 => mx_Tp M1 ∧ (∃ x2 : Int32, o = .inl (some (.int x2)) ∧ (vp_in (v4 + 1) (mx_scr M1).1 ∧ (vp_in (v4 + 2) (mx_scr M1).1 ∧ (mx_W m_X11_off d 0 [.ref 58, .int ((mx_scr M1).2 (v4 + 1).toNatClampNeg), .int ((mx_scr M1).2 (v4 + 2).toNatClampNeg), .retAddr 0] [] M1 (fun o M3 => mx_Tp M3 ∧ (∃ x4 : Int32, o = .inl (some (.int x4)) ∧ (mx_W m_X11_thrown d 0 [.ref 58] [] M3 (fun o M5 => mx_Tp M5 ∧ (∃ x6 : Int32, o = .inl (some (.int x6)) ∧ ((x6 = x2 → ((¬ x2 = 0 → mx_W m_L_law (d + 1) 2312 [.retAddr 1, .ref 1, .ref 58, .ref 98, .int v4, .retAddr 0, .retAddr 0] [] M5 Q) ∧ (x2 = 0 → ((mx_J M5 98 0 = x4.toInt64 → mx_W m_L_law (d + 1) 2312 [.retAddr 1, .ref 1, .ref 58, .ref 98, .int v4, .retAddr 0, .retAddr 0] [] M5 Q) ∧ (¬ mx_J M5 98 0 = x4.toInt64 → Q (.inl (some (.int (mx_b false)))) M5))))) ∧ (¬ x6 = x2 → Q (.inl (some (.int (mx_b false)))) M5)))))))))))))))) :
    mx_W m_L_law (d + 1) 2072 [.retAddr 1, .ref 1, .ref 58, .ref 98, .int v4, .retAddr 0, .retAddr 0] [] M Q := by
  refine mx_aload_n 1 (mx_da t_L_law_2072 0 rfl) rfl rfl rfl rfl ?_
  refine mx_aload_n 0 (mx_da t_L_law_2072 1 rfl) rfl rfl rfl rfl ?_
  refine mx_iload 4 (mx_da t_L_law_2072 2 rfl) rfl rfl ?_
  refine mx_iconst (v := 1) (mx_da t_L_law_2072 3 rfl) rfl rfl ?_
  refine mx_iadd (mx_da t_L_law_2072 4 rfl) rfl ?_
  refine mx_sld h.1 (mx_da t_L_law_2072 5 rfl) rfl ?_
  have h := h.2
  refine mx_aload_n 0 (mx_da t_L_law_2072 6 rfl) rfl rfl rfl rfl ?_
  refine mx_iload 4 (mx_da t_L_law_2072 7 rfl) rfl rfl ?_
  refine mx_iconst (v := 2) (mx_da t_L_law_2072 8 rfl) rfl rfl ?_
  refine mx_iadd (mx_da t_L_law_2072 9 rfl) rfl ?_
  refine mx_sld h.1 (mx_da t_L_law_2072 10 rfl) rfl ?_
  have h := h.2
  refine mx_aload_n 3 (mx_da t_L_law_2072 11 rfl) rfl rfl rfl rfl ?_
  refine mx_callSX yL_off m_L_off [.ref 1, .int ((mx_scr M).2 (v4 + 1).toNatClampNeg), .int ((mx_scr M).2 (v4 + 2).toNatClampNeg), .ref 98] mm_L_off ml_RL_228 st_L_off rfl (Nat.le_of_ble_eq_true rfl) (mx_da t_L_law_2072 12 rfl) rfl (Nat.le_of_ble_eq_true rfl) rfl ?_
  refine mx_mono h ?_
  intro o M1 ho
  obtain ⟨T1, x2, rfl, h⟩ := ho
  refine ⟨T1.1.trans T.1.symm, ?_⟩
  have T := T1
  clear T1
  show mx_W m_L_law (d + 1) 2089 [.retAddr 1, .ref 1, .ref 58, .ref 98, .int v4, .retAddr 0, .retAddr 0] [.int x2] M1 Q
  refine mx_istore 5 [.retAddr 1, .ref 1, .ref 58, .ref 98, .int v4, .int x2, .retAddr 0] (mx_da t_L_law_2072 13 rfl) rfl (by decide) rfl ?_
  refine mx_aload_n 2 (mx_da t_L_law_2072 14 rfl) rfl rfl rfl rfl ?_
  refine mx_aload_n 0 (mx_da t_L_law_2072 15 rfl) rfl rfl rfl rfl ?_
  refine mx_iload 4 (mx_da t_L_law_2072 16 rfl) rfl rfl ?_
  refine mx_iconst (v := 1) (mx_da t_L_law_2072 17 rfl) rfl rfl ?_
  refine mx_iadd (mx_da t_L_law_2072 18 rfl) rfl ?_
  refine mx_sld h.1 (mx_da t_L_law_2072 19 rfl) rfl ?_
  have h := h.2
  refine mx_aload_n 0 (mx_da t_L_law_2072 20 rfl) rfl rfl rfl rfl ?_
  refine mx_iload 4 (mx_da t_L_law_2072 21 rfl) rfl rfl ?_
  refine mx_iconst (v := 2) (mx_da t_L_law_2072 22 rfl) rfl rfl ?_
  refine mx_iadd (mx_da t_L_law_2072 23 rfl) rfl ?_
  refine mx_sld h.1 (mx_da t_L_law_2072 24 rfl) rfl ?_
  have h := h.2
  refine mx_callV yX11_off m_X11_off [.int ((mx_scr M1).2 (v4 + 1).toNatClampNeg), .int ((mx_scr M1).2 (v4 + 2).toNatClampNeg)] mm_X11_off ml_RL_230 im_X11_off se_X11_off (tp_s T 58 rfl) rfl rfl (Nat.le_of_ble_eq_true rfl) (mx_da t_L_law_2072 25 rfl) rfl (Nat.le_of_ble_eq_true rfl) rfl ?_
  refine mx_mono h ?_
  intro o M3 ho
  obtain ⟨T1, x4, rfl, h⟩ := ho
  refine ⟨T1.1.trans T.1.symm, ?_⟩
  have T := T1
  clear T1
  show mx_W m_L_law (d + 1) 2107 [.retAddr 1, .ref 1, .ref 58, .ref 98, .int v4, .int x2, .retAddr 0] [.int x4] M3 Q
  refine mx_istore 6 [.retAddr 1, .ref 1, .ref 58, .ref 98, .int v4, .int x2, .int x4] (mx_da t_L_law_2072 26 rfl) rfl (by decide) rfl ?_
  refine mx_aload_n 2 (mx_da t_L_law_2072 27 rfl) rfl rfl rfl rfl ?_
  refine mx_callV yX11_thrown m_X11_thrown [] mm_X11_thrown ml_RL_117 im_X11_thrown se_X11_thrown (tp_s T 58 rfl) rfl rfl (Nat.le_of_ble_eq_true rfl) (mx_da t_L_law_2072 28 rfl) rfl (Nat.le_of_ble_eq_true rfl) rfl ?_
  refine mx_mono h ?_
  intro o M5 ho
  obtain ⟨T1, x6, rfl, h⟩ := ho
  refine ⟨T1.1.trans T.1.symm, ?_⟩
  have T := T1
  clear T1
  show mx_W m_L_law (d + 1) 2113 [.retAddr 1, .ref 1, .ref 58, .ref 98, .int v4, .int x2, .int x4] [.int x6] M5 Q
  refine mx_iload 5 (mx_da t_L_law_2072 29 rfl) rfl rfl ?_
  refine mx_icmp_eq 2120 (mx_da t_L_law_2072 30 rfl) rfl rfl (fun g9 => ?_) (fun g9 => ?_)
  · have h := h.1 g9
    refine mx_iload 5 (mx_da t_L_law_2072 33 rfl) rfl rfl ?_
    refine mx_if_ne 2137 (mx_da t_L_law_2072 34 rfl) rfl rfl (fun g9 => ?_) (fun g9 => ?_)
    · have h := h.1 g9
      refine mx_goto (n := 2312) (mx_da t_L_law_2072 44 rfl) rfl ?_
      exact mx_wkn [.retAddr 1, .ref 1, .ref 58, .ref 98, .int v4, .retAddr 0, .retAddr 0] ⟨Or.inr rfl, Or.inr rfl, Or.inr rfl, Or.inr rfl, Or.inr rfl, Or.inl rfl, Or.inl rfl, trivial⟩ h
    · have h := h.2 g9
      refine mx_aload_n 3 (mx_da t_L_law_2072 35 rfl) rfl rfl rfl rfl ?_
      refine mx_iconst (v := 0) (mx_da t_L_law_2072 36 rfl) rfl rfl ?_
      refine mx_lald (tp_s T 98 rfl) (mx_vin rfl) (mx_da t_L_law_2072 37 rfl) rfl ?_
      refine mx_iload 6 (mx_da t_L_law_2072 38 rfl) rfl rfl ?_
      refine mx_i2l (mx_da t_L_law_2072 39 rfl) rfl ?_
      refine mx_lcmp (mx_da t_L_law_2072 40 rfl) rfl ?_
      refine mx_if_eq 2137 (mx_da t_L_law_2072 41 rfl) rfl rfl (fun g9 => ?_) (fun g9 => ?_)
      · have h := h.1 (mx_lc0.mp g9)
        refine mx_goto (n := 2312) (mx_da t_L_law_2072 44 rfl) rfl ?_
        exact mx_wkn [.retAddr 1, .ref 1, .ref 58, .ref 98, .int v4, .retAddr 0, .retAddr 0] ⟨Or.inr rfl, Or.inr rfl, Or.inr rfl, Or.inr rfl, Or.inr rfl, Or.inl rfl, Or.inl rfl, trivial⟩ h
      · have h := h.2 (mx_lcn.mp g9)
        refine mx_iconst (v := 0) (mx_da t_L_law_2072 42 rfl) rfl rfl ?_
        exact mx_zret rfl rfl (mx_da t_L_law_2072 43 rfl) h
  · have h := h.2 g9
    refine mx_iconst (v := 0) (mx_da t_L_law_2072 31 rfl) rfl rfl ?_
    exact mx_zret rfl rfl (mx_da t_L_law_2072 32 rfl) h
set_option maxHeartbeats 4000000 in
theorem x_L_law_2140 {d : Nat} {M : mx_M} {Q : mx_O → mx_M → Prop} (T : mx_Tp M) (v4 : Int32)
    (h : (vp_in (v4 + 1) (mx_scr M).1 ∧ (vp_in (v4 + 2) (mx_scr M).1 ∧ (mx_W m_L_worst d 0 [.ref 1, .int ((mx_scr M).2 (v4 + 1).toNatClampNeg), .int ((mx_scr M).2 (v4 + 2).toNatClampNeg), .ref 98, .retAddr 0] [] M (fun o M1 => mx_Tp M1 ∧ (∃ x2 : Int32, o = .inl (some (.int x2)) ∧ (vp_in (v4 + 1) (mx_scr M1).1 ∧ (vp_in (v4 + 2) (mx_scr M1).1 ∧ (mx_W m_X11_worst d 0 [.ref 58, .int ((mx_scr M1).2 (v4 + 1).toNatClampNeg), .int ((mx_scr M1).2 (v4 + 2).toNatClampNeg), .retAddr 0, .retAddr 0, .retAddr 0, .retAddr 0, .retAddr 0] [] M1 (fun o M3 => mx_Tp M3 ∧ (∃ x4 : Int32, o = .inl (some (.int x4)) ∧ (mx_W m_X11_thrown d 0 [.ref 58] [] M3 (fun o M5 => mx_Tp M5 ∧ (∃ x6 : Int32, o = .inl (some (.int x6)) ∧ ((x6 = x2 → ((¬ x2 = 0 → mx_W m_L_law (d + 1) 2312 [.retAddr 1, .ref 1, .ref 58, .ref 98, .int v4, .retAddr 0, .retAddr 0] [] M5 Q) ∧ (x2 = 0 → ((mx_J M5 98 0 = x4.toInt64 → mx_W m_L_law (d + 1) 2312 [.retAddr 1, .ref 1, .ref 58, .ref 98, .int v4, .retAddr 0, .retAddr 0] [] M5 Q) ∧ (¬ mx_J M5 98 0 = x4.toInt64 → Q (.inl (some (.int (mx_b false)))) M5))))) ∧ (¬ x6 = x2 → Q (.inl (some (.int (mx_b false)))) M5)))))))))))))))) :
    mx_W m_L_law (d + 1) 2140 [.retAddr 1, .ref 1, .ref 58, .ref 98, .int v4, .retAddr 0, .retAddr 0] [] M Q := by
  refine mx_aload_n 1 (mx_da t_L_law_2140 0 rfl) rfl rfl rfl rfl ?_
  refine mx_aload_n 0 (mx_da t_L_law_2140 1 rfl) rfl rfl rfl rfl ?_
  refine mx_iload 4 (mx_da t_L_law_2140 2 rfl) rfl rfl ?_
  refine mx_iconst (v := 1) (mx_da t_L_law_2140 3 rfl) rfl rfl ?_
  refine mx_iadd (mx_da t_L_law_2140 4 rfl) rfl ?_
  refine mx_sld h.1 (mx_da t_L_law_2140 5 rfl) rfl ?_
  have h := h.2
  refine mx_aload_n 0 (mx_da t_L_law_2140 6 rfl) rfl rfl rfl rfl ?_
  refine mx_iload 4 (mx_da t_L_law_2140 7 rfl) rfl rfl ?_
  refine mx_iconst (v := 2) (mx_da t_L_law_2140 8 rfl) rfl rfl ?_
  refine mx_iadd (mx_da t_L_law_2140 9 rfl) rfl ?_
  refine mx_sld h.1 (mx_da t_L_law_2140 10 rfl) rfl ?_
  have h := h.2
  refine mx_aload_n 3 (mx_da t_L_law_2140 11 rfl) rfl rfl rfl rfl ?_
  refine mx_callSX yL_worst m_L_worst [.ref 1, .int ((mx_scr M).2 (v4 + 1).toNatClampNeg), .int ((mx_scr M).2 (v4 + 2).toNatClampNeg), .ref 98] mm_L_worst ml_RL_231 st_L_worst rfl (Nat.le_of_ble_eq_true rfl) (mx_da t_L_law_2140 12 rfl) rfl (Nat.le_of_ble_eq_true rfl) rfl ?_
  refine mx_mono h ?_
  intro o M1 ho
  obtain ⟨T1, x2, rfl, h⟩ := ho
  refine ⟨T1.1.trans T.1.symm, ?_⟩
  have T := T1
  clear T1
  show mx_W m_L_law (d + 1) 2157 [.retAddr 1, .ref 1, .ref 58, .ref 98, .int v4, .retAddr 0, .retAddr 0] [.int x2] M1 Q
  refine mx_istore 5 [.retAddr 1, .ref 1, .ref 58, .ref 98, .int v4, .int x2, .retAddr 0] (mx_da t_L_law_2140 13 rfl) rfl (by decide) rfl ?_
  refine mx_aload_n 2 (mx_da t_L_law_2140 14 rfl) rfl rfl rfl rfl ?_
  refine mx_aload_n 0 (mx_da t_L_law_2140 15 rfl) rfl rfl rfl rfl ?_
  refine mx_iload 4 (mx_da t_L_law_2140 16 rfl) rfl rfl ?_
  refine mx_iconst (v := 1) (mx_da t_L_law_2140 17 rfl) rfl rfl ?_
  refine mx_iadd (mx_da t_L_law_2140 18 rfl) rfl ?_
  refine mx_sld h.1 (mx_da t_L_law_2140 19 rfl) rfl ?_
  have h := h.2
  refine mx_aload_n 0 (mx_da t_L_law_2140 20 rfl) rfl rfl rfl rfl ?_
  refine mx_iload 4 (mx_da t_L_law_2140 21 rfl) rfl rfl ?_
  refine mx_iconst (v := 2) (mx_da t_L_law_2140 22 rfl) rfl rfl ?_
  refine mx_iadd (mx_da t_L_law_2140 23 rfl) rfl ?_
  refine mx_sld h.1 (mx_da t_L_law_2140 24 rfl) rfl ?_
  have h := h.2
  refine mx_callV yX11_worst m_X11_worst [.int ((mx_scr M1).2 (v4 + 1).toNatClampNeg), .int ((mx_scr M1).2 (v4 + 2).toNatClampNeg)] mm_X11_worst ml_RL_233 im_X11_worst se_X11_worst (tp_s T 58 rfl) rfl rfl (Nat.le_of_ble_eq_true rfl) (mx_da t_L_law_2140 25 rfl) rfl (Nat.le_of_ble_eq_true rfl) rfl ?_
  refine mx_mono h ?_
  intro o M3 ho
  obtain ⟨T1, x4, rfl, h⟩ := ho
  refine ⟨T1.1.trans T.1.symm, ?_⟩
  have T := T1
  clear T1
  show mx_W m_L_law (d + 1) 2175 [.retAddr 1, .ref 1, .ref 58, .ref 98, .int v4, .int x2, .retAddr 0] [.int x4] M3 Q
  refine mx_istore 6 [.retAddr 1, .ref 1, .ref 58, .ref 98, .int v4, .int x2, .int x4] (mx_da t_L_law_2140 26 rfl) rfl (by decide) rfl ?_
  refine mx_aload_n 2 (mx_da t_L_law_2140 27 rfl) rfl rfl rfl rfl ?_
  refine mx_callV yX11_thrown m_X11_thrown [] mm_X11_thrown ml_RL_117 im_X11_thrown se_X11_thrown (tp_s T 58 rfl) rfl rfl (Nat.le_of_ble_eq_true rfl) (mx_da t_L_law_2140 28 rfl) rfl (Nat.le_of_ble_eq_true rfl) rfl ?_
  refine mx_mono h ?_
  intro o M5 ho
  obtain ⟨T1, x6, rfl, h⟩ := ho
  refine ⟨T1.1.trans T.1.symm, ?_⟩
  have T := T1
  clear T1
  show mx_W m_L_law (d + 1) 2181 [.retAddr 1, .ref 1, .ref 58, .ref 98, .int v4, .int x2, .int x4] [.int x6] M5 Q
  refine mx_iload 5 (mx_da t_L_law_2140 29 rfl) rfl rfl ?_
  refine mx_icmp_eq 2188 (mx_da t_L_law_2140 30 rfl) rfl rfl (fun g9 => ?_) (fun g9 => ?_)
  · have h := h.1 g9
    refine mx_iload 5 (mx_da t_L_law_2140 33 rfl) rfl rfl ?_
    refine mx_if_ne 2205 (mx_da t_L_law_2140 34 rfl) rfl rfl (fun g9 => ?_) (fun g9 => ?_)
    · have h := h.1 g9
      refine mx_goto (n := 2312) (mx_da t_L_law_2140 44 rfl) rfl ?_
      exact mx_wkn [.retAddr 1, .ref 1, .ref 58, .ref 98, .int v4, .retAddr 0, .retAddr 0] ⟨Or.inr rfl, Or.inr rfl, Or.inr rfl, Or.inr rfl, Or.inr rfl, Or.inl rfl, Or.inl rfl, trivial⟩ h
    · have h := h.2 g9
      refine mx_aload_n 3 (mx_da t_L_law_2140 35 rfl) rfl rfl rfl rfl ?_
      refine mx_iconst (v := 0) (mx_da t_L_law_2140 36 rfl) rfl rfl ?_
      refine mx_lald (tp_s T 98 rfl) (mx_vin rfl) (mx_da t_L_law_2140 37 rfl) rfl ?_
      refine mx_iload 6 (mx_da t_L_law_2140 38 rfl) rfl rfl ?_
      refine mx_i2l (mx_da t_L_law_2140 39 rfl) rfl ?_
      refine mx_lcmp (mx_da t_L_law_2140 40 rfl) rfl ?_
      refine mx_if_eq 2205 (mx_da t_L_law_2140 41 rfl) rfl rfl (fun g9 => ?_) (fun g9 => ?_)
      · have h := h.1 (mx_lc0.mp g9)
        refine mx_goto (n := 2312) (mx_da t_L_law_2140 44 rfl) rfl ?_
        exact mx_wkn [.retAddr 1, .ref 1, .ref 58, .ref 98, .int v4, .retAddr 0, .retAddr 0] ⟨Or.inr rfl, Or.inr rfl, Or.inr rfl, Or.inr rfl, Or.inr rfl, Or.inl rfl, Or.inl rfl, trivial⟩ h
      · have h := h.2 (mx_lcn.mp g9)
        refine mx_iconst (v := 0) (mx_da t_L_law_2140 42 rfl) rfl rfl ?_
        exact mx_zret rfl rfl (mx_da t_L_law_2140 43 rfl) h
  · have h := h.2 g9
    refine mx_iconst (v := 0) (mx_da t_L_law_2140 31 rfl) rfl rfl ?_
    exact mx_zret rfl rfl (mx_da t_L_law_2140 32 rfl) h
set_option maxHeartbeats 4000000 in
theorem x_L_law_2208 {d : Nat} {M : mx_M} {Q : mx_O → mx_M → Prop} (T : mx_Tp M) (v4 : Int32)
    (h : (vp_in (v4 + 1) (mx_scr M).1 ∧ (vp_in (v4 + 2) (mx_scr M).1 ∧ (vp_in (v4 + 3) (mx_scr M).1 ∧ (mx_W m_L_trays d 0 [.ref 1, .int ((mx_scr M).2 (v4 + 1).toNatClampNeg), .int ((mx_scr M).2 (v4 + 2).toNatClampNeg), .int ((mx_scr M).2 (v4 + 3).toNatClampNeg), .ref 98, .retAddr 0] [] M (fun o M1 => mx_Tp M1 ∧ (∃ x2 : Int32, o = .inl (some (.int x2)) ∧ (vp_in (v4 + 1) (mx_scr M1).1 ∧ (vp_in (v4 + 2) (mx_scr M1).1 ∧ (vp_in (v4 + 3) (mx_scr M1).1 ∧ (mx_W m_X11_trays d 0 [.ref 58, .int ((mx_scr M1).2 (v4 + 1).toNatClampNeg), .int ((mx_scr M1).2 (v4 + 2).toNatClampNeg), .int ((mx_scr M1).2 (v4 + 3).toNatClampNeg), .retAddr 0] [] M1 (fun o M3 => mx_Tp M3 ∧ (∃ x4 : Int32, o = .inl (some (.int x4)) ∧ (mx_W m_X11_thrown d 0 [.ref 58] [] M3 (fun o M5 => mx_Tp M5 ∧ (∃ x6 : Int32, o = .inl (some (.int x6)) ∧ ((x6 = x2 → ((¬ x2 = 0 → mx_W m_L_law (d + 1) 2312 [.retAddr 1, .ref 1, .ref 58, .ref 98, .int v4, .retAddr 0, .retAddr 0] [] M5 Q) ∧ (x2 = 0 → ((mx_J M5 98 0 = x4.toInt64 → mx_W m_L_law (d + 1) 2312 [.retAddr 1, .ref 1, .ref 58, .ref 98, .int v4, .retAddr 0, .retAddr 0] [] M5 Q) ∧ (¬ mx_J M5 98 0 = x4.toInt64 → Q (.inl (some (.int (mx_b false)))) M5))))) ∧ (¬ x6 = x2 → Q (.inl (some (.int (mx_b false)))) M5)))))))))))))))))) :
    mx_W m_L_law (d + 1) 2208 [.retAddr 1, .ref 1, .ref 58, .ref 98, .int v4, .retAddr 0, .retAddr 0] [] M Q := by
  refine mx_aload_n 1 (mx_da t_L_law_2208 0 rfl) rfl rfl rfl rfl ?_
  refine mx_aload_n 0 (mx_da t_L_law_2208 1 rfl) rfl rfl rfl rfl ?_
  refine mx_iload 4 (mx_da t_L_law_2208 2 rfl) rfl rfl ?_
  refine mx_iconst (v := 1) (mx_da t_L_law_2208 3 rfl) rfl rfl ?_
  refine mx_iadd (mx_da t_L_law_2208 4 rfl) rfl ?_
  refine mx_sld h.1 (mx_da t_L_law_2208 5 rfl) rfl ?_
  have h := h.2
  refine mx_aload_n 0 (mx_da t_L_law_2208 6 rfl) rfl rfl rfl rfl ?_
  refine mx_iload 4 (mx_da t_L_law_2208 7 rfl) rfl rfl ?_
  refine mx_iconst (v := 2) (mx_da t_L_law_2208 8 rfl) rfl rfl ?_
  refine mx_iadd (mx_da t_L_law_2208 9 rfl) rfl ?_
  refine mx_sld h.1 (mx_da t_L_law_2208 10 rfl) rfl ?_
  have h := h.2
  refine mx_aload_n 0 (mx_da t_L_law_2208 11 rfl) rfl rfl rfl rfl ?_
  refine mx_iload 4 (mx_da t_L_law_2208 12 rfl) rfl rfl ?_
  refine mx_iconst (v := 3) (mx_da t_L_law_2208 13 rfl) rfl rfl ?_
  refine mx_iadd (mx_da t_L_law_2208 14 rfl) rfl ?_
  refine mx_sld h.1 (mx_da t_L_law_2208 15 rfl) rfl ?_
  have h := h.2
  refine mx_aload_n 3 (mx_da t_L_law_2208 16 rfl) rfl rfl rfl rfl ?_
  refine mx_callSX yL_trays m_L_trays [.ref 1, .int ((mx_scr M).2 (v4 + 1).toNatClampNeg), .int ((mx_scr M).2 (v4 + 2).toNatClampNeg), .int ((mx_scr M).2 (v4 + 3).toNatClampNeg), .ref 98] mm_L_trays ml_RL_234 st_L_trays rfl (Nat.le_of_ble_eq_true rfl) (mx_da t_L_law_2208 17 rfl) rfl (Nat.le_of_ble_eq_true rfl) rfl ?_
  refine mx_mono h ?_
  intro o M1 ho
  obtain ⟨T1, x2, rfl, h⟩ := ho
  refine ⟨T1.1.trans T.1.symm, ?_⟩
  have T := T1
  clear T1
  show mx_W m_L_law (d + 1) 2231 [.retAddr 1, .ref 1, .ref 58, .ref 98, .int v4, .retAddr 0, .retAddr 0] [.int x2] M1 Q
  refine mx_istore 5 [.retAddr 1, .ref 1, .ref 58, .ref 98, .int v4, .int x2, .retAddr 0] (mx_da t_L_law_2208 18 rfl) rfl (by decide) rfl ?_
  refine mx_aload_n 2 (mx_da t_L_law_2208 19 rfl) rfl rfl rfl rfl ?_
  refine mx_aload_n 0 (mx_da t_L_law_2208 20 rfl) rfl rfl rfl rfl ?_
  refine mx_iload 4 (mx_da t_L_law_2208 21 rfl) rfl rfl ?_
  refine mx_iconst (v := 1) (mx_da t_L_law_2208 22 rfl) rfl rfl ?_
  refine mx_iadd (mx_da t_L_law_2208 23 rfl) rfl ?_
  refine mx_sld h.1 (mx_da t_L_law_2208 24 rfl) rfl ?_
  have h := h.2
  refine mx_aload_n 0 (mx_da t_L_law_2208 25 rfl) rfl rfl rfl rfl ?_
  refine mx_iload 4 (mx_da t_L_law_2208 26 rfl) rfl rfl ?_
  refine mx_iconst (v := 2) (mx_da t_L_law_2208 27 rfl) rfl rfl ?_
  refine mx_iadd (mx_da t_L_law_2208 28 rfl) rfl ?_
  refine mx_sld h.1 (mx_da t_L_law_2208 29 rfl) rfl ?_
  have h := h.2
  refine mx_aload_n 0 (mx_da t_L_law_2208 30 rfl) rfl rfl rfl rfl ?_
  refine mx_iload 4 (mx_da t_L_law_2208 31 rfl) rfl rfl ?_
  refine mx_iconst (v := 3) (mx_da t_L_law_2208 32 rfl) rfl rfl ?_
  refine mx_iadd (mx_da t_L_law_2208 33 rfl) rfl ?_
  refine mx_sld h.1 (mx_da t_L_law_2208 34 rfl) rfl ?_
  have h := h.2
  refine mx_callV yX11_trays m_X11_trays [.int ((mx_scr M1).2 (v4 + 1).toNatClampNeg), .int ((mx_scr M1).2 (v4 + 2).toNatClampNeg), .int ((mx_scr M1).2 (v4 + 3).toNatClampNeg)] mm_X11_trays ml_RL_236 im_X11_trays se_X11_trays (tp_s T 58 rfl) rfl rfl (Nat.le_of_ble_eq_true rfl) (mx_da t_L_law_2208 35 rfl) rfl (Nat.le_of_ble_eq_true rfl) rfl ?_
  refine mx_mono h ?_
  intro o M3 ho
  obtain ⟨T1, x4, rfl, h⟩ := ho
  refine ⟨T1.1.trans T.1.symm, ?_⟩
  have T := T1
  clear T1
  show mx_W m_L_law (d + 1) 2255 [.retAddr 1, .ref 1, .ref 58, .ref 98, .int v4, .int x2, .retAddr 0] [.int x4] M3 Q
  refine mx_istore 6 [.retAddr 1, .ref 1, .ref 58, .ref 98, .int v4, .int x2, .int x4] (mx_da t_L_law_2208 36 rfl) rfl (by decide) rfl ?_
  refine mx_aload_n 2 (mx_da t_L_law_2208 37 rfl) rfl rfl rfl rfl ?_
  refine mx_callV yX11_thrown m_X11_thrown [] mm_X11_thrown ml_RL_117 im_X11_thrown se_X11_thrown (tp_s T 58 rfl) rfl rfl (Nat.le_of_ble_eq_true rfl) (mx_da t_L_law_2208 38 rfl) rfl (Nat.le_of_ble_eq_true rfl) rfl ?_
  refine mx_mono h ?_
  intro o M5 ho
  obtain ⟨T1, x6, rfl, h⟩ := ho
  refine ⟨T1.1.trans T.1.symm, ?_⟩
  have T := T1
  clear T1
  show mx_W m_L_law (d + 1) 2261 [.retAddr 1, .ref 1, .ref 58, .ref 98, .int v4, .int x2, .int x4] [.int x6] M5 Q
  refine mx_iload 5 (mx_da t_L_law_2208 39 rfl) rfl rfl ?_
  refine mx_icmp_eq 2268 (mx_da t_L_law_2208 40 rfl) rfl rfl (fun g9 => ?_) (fun g9 => ?_)
  · have h := h.1 g9
    refine mx_iload 5 (mx_da t_L_law_2208 43 rfl) rfl rfl ?_
    refine mx_if_ne 2285 (mx_da t_L_law_2208 44 rfl) rfl rfl (fun g9 => ?_) (fun g9 => ?_)
    · have h := h.1 g9
      refine mx_goto (n := 2312) (mx_da t_L_law_2208 54 rfl) rfl ?_
      exact mx_wkn [.retAddr 1, .ref 1, .ref 58, .ref 98, .int v4, .retAddr 0, .retAddr 0] ⟨Or.inr rfl, Or.inr rfl, Or.inr rfl, Or.inr rfl, Or.inr rfl, Or.inl rfl, Or.inl rfl, trivial⟩ h
    · have h := h.2 g9
      refine mx_aload_n 3 (mx_da t_L_law_2208 45 rfl) rfl rfl rfl rfl ?_
      refine mx_iconst (v := 0) (mx_da t_L_law_2208 46 rfl) rfl rfl ?_
      refine mx_lald (tp_s T 98 rfl) (mx_vin rfl) (mx_da t_L_law_2208 47 rfl) rfl ?_
      refine mx_iload 6 (mx_da t_L_law_2208 48 rfl) rfl rfl ?_
      refine mx_i2l (mx_da t_L_law_2208 49 rfl) rfl ?_
      refine mx_lcmp (mx_da t_L_law_2208 50 rfl) rfl ?_
      refine mx_if_eq 2285 (mx_da t_L_law_2208 51 rfl) rfl rfl (fun g9 => ?_) (fun g9 => ?_)
      · have h := h.1 (mx_lc0.mp g9)
        refine mx_goto (n := 2312) (mx_da t_L_law_2208 54 rfl) rfl ?_
        exact mx_wkn [.retAddr 1, .ref 1, .ref 58, .ref 98, .int v4, .retAddr 0, .retAddr 0] ⟨Or.inr rfl, Or.inr rfl, Or.inr rfl, Or.inr rfl, Or.inr rfl, Or.inl rfl, Or.inl rfl, trivial⟩ h
      · have h := h.2 (mx_lcn.mp g9)
        refine mx_iconst (v := 0) (mx_da t_L_law_2208 52 rfl) rfl rfl ?_
        exact mx_zret rfl rfl (mx_da t_L_law_2208 53 rfl) h
  · have h := h.2 g9
    refine mx_iconst (v := 0) (mx_da t_L_law_2208 41 rfl) rfl rfl ?_
    exact mx_zret rfl rfl (mx_da t_L_law_2208 42 rfl) h
set_option maxHeartbeats 4000000 in
theorem x_L_law_2288 {d : Nat} {M : mx_M} {Q : mx_O → mx_M → Prop} (T : mx_Tp M) (v4 : Int32)
    (h : (mx_W m_X10_image d 0 [.ref 1] [] M (fun o M1 => mx_Tp M1 ∧ (o = .inl none ∧ (mx_W m_X11_image d 0 [.ref 58] [] M1 (fun o M2 => mx_Tp M2 ∧ (o = .inl none ∧ mx_W m_L_law (d + 1) 2312 [.retAddr 1, .ref 1, .ref 58, .ref 98, .int v4, .retAddr 0, .retAddr 0] [] M2 Q))))))) :
    mx_W m_L_law (d + 1) 2288 [.retAddr 1, .ref 1, .ref 58, .ref 98, .int v4, .retAddr 0, .retAddr 0] [] M Q := by
  refine mx_aload_n 1 (mx_da t_L_law_2288 0 rfl) rfl rfl rfl rfl ?_
  refine mx_callV yX10_image m_X10_image [] mm_X10_image ml_RL_237 im_X10_image se_X10_image (tp_s T 1 rfl) rfl rfl (Nat.le_of_ble_eq_true rfl) (mx_da t_L_law_2288 1 rfl) rfl (Nat.le_of_ble_eq_true rfl) rfl ?_
  refine mx_mono h ?_
  intro o M1 ho
  obtain ⟨T1, rfl, h⟩ := ho
  refine ⟨T1.1.trans T.1.symm, ?_⟩
  have T := T1
  clear T1
  show mx_W m_L_law (d + 1) 2292 [.retAddr 1, .ref 1, .ref 58, .ref 98, .int v4, .retAddr 0, .retAddr 0] [] M1 Q
  refine mx_aload_n 2 (mx_da t_L_law_2288 2 rfl) rfl rfl rfl rfl ?_
  refine mx_callV yX11_image m_X11_image [] mm_X11_image ml_RL_240 im_X11_image se_X11_image (tp_s T 58 rfl) rfl rfl (Nat.le_of_ble_eq_true rfl) (mx_da t_L_law_2288 3 rfl) rfl (Nat.le_of_ble_eq_true rfl) rfl ?_
  refine mx_mono h ?_
  intro o M2 ho
  obtain ⟨T1, rfl, h⟩ := ho
  refine ⟨T1.1.trans T.1.symm, ?_⟩
  have T := T1
  clear T1
  show mx_W m_L_law (d + 1) 2296 [.retAddr 1, .ref 1, .ref 58, .ref 98, .int v4, .retAddr 0, .retAddr 0] [] M2 Q
  refine mx_goto (n := 2312) (mx_da t_L_law_2288 4 rfl) rfl ?_
  exact h
set_option maxHeartbeats 4000000 in
theorem x_L_law_2299 {d : Nat} {M : mx_M} {Q : mx_O → mx_M → Prop} (T : mx_Tp M) (v4 : Int32)
    (h : (mx_W m_X10_restore d 0 [.ref 1] [] M (fun o M1 => mx_Tp M1 ∧ (∃ x2 : Bool, o = .inl (some (.int (mx_b x2))) ∧ (mx_W m_X11_restore d 0 [.ref 58] [] M1 (fun o M3 => mx_Tp M3 ∧ (∃ x4 : Bool, o = .inl (some (.int (mx_b x4))) ∧ (((mx_b x2) = (mx_b x4) → mx_W m_L_law (d + 1) 2312 [.retAddr 1, .ref 1, .ref 58, .ref 98, .int v4, .retAddr 0, .retAddr 0] [] M3 Q) ∧ (¬ (mx_b x2) = (mx_b x4) → Q (.inl (some (.int (mx_b false)))) M3))))))))) :
    mx_W m_L_law (d + 1) 2299 [.retAddr 1, .ref 1, .ref 58, .ref 98, .int v4, .retAddr 0, .retAddr 0] [] M Q := by
  refine mx_aload_n 1 (mx_da t_L_law_2299 0 rfl) rfl rfl rfl rfl ?_
  refine mx_callV yX10_restore m_X10_restore [] mm_X10_restore ml_RL_241 im_X10_restore se_X10_restore (tp_s T 1 rfl) rfl rfl (Nat.le_of_ble_eq_true rfl) (mx_da t_L_law_2299 1 rfl) rfl (Nat.le_of_ble_eq_true rfl) rfl ?_
  refine mx_mono h ?_
  intro o M1 ho
  obtain ⟨T1, x2, rfl, h⟩ := ho
  refine ⟨T1.1.trans T.1.symm, ?_⟩
  have T := T1
  clear T1
  show mx_W m_L_law (d + 1) 2303 [.retAddr 1, .ref 1, .ref 58, .ref 98, .int v4, .retAddr 0, .retAddr 0] [.int (mx_b x2)] M1 Q
  refine mx_aload_n 2 (mx_da t_L_law_2299 2 rfl) rfl rfl rfl rfl ?_
  refine mx_callV yX11_restore m_X11_restore [] mm_X11_restore ml_RL_245 im_X11_restore se_X11_restore (tp_s T 58 rfl) rfl rfl (Nat.le_of_ble_eq_true rfl) (mx_da t_L_law_2299 3 rfl) rfl (Nat.le_of_ble_eq_true rfl) rfl ?_
  refine mx_mono h ?_
  intro o M3 ho
  obtain ⟨T1, x4, rfl, h⟩ := ho
  refine ⟨T1.1.trans T.1.symm, ?_⟩
  have T := T1
  clear T1
  show mx_W m_L_law (d + 1) 2307 [.retAddr 1, .ref 1, .ref 58, .ref 98, .int v4, .retAddr 0, .retAddr 0] [.int (mx_b x4), .int (mx_b x2)] M3 Q
  refine mx_icmp_eq 2312 (mx_da t_L_law_2299 4 rfl) rfl rfl (fun g9 => ?_) (fun g9 => ?_)
  · have h := h.1 g9
    exact h
  · have h := h.2 g9
    refine mx_iconst (v := 0) (mx_da t_L_law_2299 5 rfl) rfl rfl ?_
    exact mx_zret rfl rfl (mx_da t_L_law_2299 6 rfl) h
set_option maxHeartbeats 4000000 in
theorem x_L_law_2312 {d : Nat} {M : mx_M} {Q : mx_O → mx_M → Prop} (T : mx_Tp M) (v4 : Int32)
    (h : mx_W m_L_law (d + 1) 23 [.retAddr 1, .ref 1, .ref 58, .ref 98, .int (v4 + 6), .retAddr 0, .retAddr 0] [] M Q) :
    mx_W m_L_law (d + 1) 2312 [.retAddr 1, .ref 1, .ref 58, .ref 98, .int v4, .retAddr 0, .retAddr 0] [] M Q := by
  refine mx_iinc 4 (v := v4 + 6) [.retAddr 1, .ref 1, .ref 58, .ref 98, .int (v4 + 6), .retAddr 0, .retAddr 0] (mx_da t_L_law_2312 0 rfl) rfl (by decide) rfl rfl rfl ?_
  refine mx_goto (n := 23) (mx_da t_L_law_2312 1 rfl) rfl ?_
  exact h
