/-! The law in the mini code; the claim out of the mini run. Printed by wip/whole/gen/part36.py. -/
def cl_0 : List (Nat × Instr) := [(0, .new 785), (3, .dup), (4, .invokevirtual 9115916), (7, .astore 1), (8, .new 883), (11, .dup), (12, .invokevirtual 13965581), (15, .astore 2), (16, .iconst 0), (17, .istore 3), (18, .jsr_w 0), (18, .iload 3), (19, .aload 0), (20, .arraylength), (21, .iconst 6), (23, .isub), (24, .if_icmp .gt 1847), (27, .aload 0), (28, .iload 3), (29, .iaload), (30, .iconst 63), (32, .iand), (33, .lookupswitch 1841 #[(0, 244), (1, 287), (2, 340), (3, 373), (4, 406), (5, 449), (6, 482), (7, 525), (8, 568), (9, 611), (10, 634), (11, 687), (12, 710), (13, 743), (14, 806), (15, 829), (16, 842), (17, 855), (18, 898), (19, 931), (20, 974), (21, 1007), (22, 1030), (23, 1063), (24, 1096), (25, 1109), (26, 1132), (27, 1175), (28, 1208), (29, 1251), (30, 1304), (31, 1337), (32, 1380), (33, 1423), (34, 1446), (35, 1459), (36, 1482), (37, 1515), (38, 1538), (39, 1571), (40, 1614), (41, 1647), (42, 1700), (43, 1733), (44, 1746), (45, 1779), (46, 1792), (47, 1805), (48, 1818)]), (244, .aload 1), (245, .aload 0), (246, .iload 3), (247, .iconst 1), (248, .iadd), (249, .iaload), (250, .aload 0), (251, .iload 3), (252, .iconst 2), (253, .iadd), (254, .iaload), (255, .aload 0), (256, .iload 3), (257, .iconst 3), (258, .iadd), (259, .iaload), (260, .invokevirtual 9191436)]
def cl_1 : List (Nat × Instr) := [(263, .aload 2), (264, .aload 0), (265, .iload 3), (266, .iconst 1), (267, .iadd), (268, .iaload), (269, .aload 0), (270, .iload 3), (271, .iconst 2), (272, .iadd), (273, .iaload), (274, .aload 0), (275, .iload 3), (276, .iconst 3), (277, .iadd), (278, .iaload), (279, .invokevirtual 15417357), (282, .if_icmp .eq 1841), (285, .iconst 0), (286, .freturn), (287, .aload 1), (288, .aload 0), (289, .iload 3), (290, .iconst 1), (291, .iadd), (292, .iaload), (293, .aload 0), (294, .iload 3), (295, .iconst 2), (296, .iadd), (297, .iaload), (298, .aload 0), (299, .iload 3), (300, .iconst 3), (301, .iadd), (302, .iaload), (303, .aload 0), (304, .iload 3), (305, .iconst 4), (306, .iadd)]
def cl_2 : List (Nat × Instr) := [(307, .iaload), (308, .invokevirtual 9261068), (311, .aload 2), (312, .aload 0), (313, .iload 3), (314, .iconst 1), (315, .iadd), (316, .iaload), (317, .aload 0), (318, .iload 3), (319, .iconst 2), (320, .iadd), (321, .iaload), (322, .aload 0), (323, .iload 3), (324, .iconst 3), (325, .iadd), (326, .iaload), (327, .aload 0), (328, .iload 3), (329, .iconst 4), (330, .iadd), (331, .iaload), (332, .invokevirtual 15552525), (335, .if_icmp .eq 1841), (338, .iconst 0), (339, .freturn), (340, .aload 1), (341, .aload 0), (342, .iload 3), (343, .iconst 1), (344, .iadd), (345, .iaload), (346, .aload 0), (347, .iload 3), (348, .iconst 2), (349, .iadd), (350, .iaload), (351, .invokevirtual 9318412), (354, .aload 2)]
def cl_3 : List (Nat × Instr) := [(355, .aload 0), (356, .iload 3), (357, .iconst 1), (358, .iadd), (359, .iaload), (360, .aload 0), (361, .iload 3), (362, .iconst 2), (363, .iadd), (364, .iaload), (365, .invokevirtual 15609869), (368, .if_icmp .eq 1841), (371, .iconst 0), (372, .freturn), (373, .aload 1), (374, .aload 0), (375, .iload 3), (376, .iconst 1), (377, .iadd), (378, .iaload), (379, .aload 0), (380, .iload 3), (381, .iconst 2), (382, .iadd), (383, .iaload), (384, .invokevirtual 9383948), (387, .aload 2), (388, .aload 0), (389, .iload 3), (390, .iconst 1), (391, .iadd), (392, .iaload), (393, .aload 0), (394, .iload 3), (395, .iconst 2), (396, .iadd), (397, .iaload), (398, .invokevirtual 15675405), (401, .if_icmp .eq 1841), (404, .iconst 0)]
def cl_4 : List (Nat × Instr) := [(405, .freturn), (406, .aload 1), (407, .aload 0), (408, .iload 3), (409, .iconst 1), (410, .iadd), (411, .iaload), (412, .aload 0), (413, .iload 3), (414, .iconst 2), (415, .iadd), (416, .iaload), (417, .aload 0), (418, .iload 3), (419, .iconst 3), (420, .iadd), (421, .iaload), (422, .invokevirtual 9453580), (425, .aload 2), (426, .aload 0), (427, .iload 3), (428, .iconst 1), (429, .iadd), (430, .iaload), (431, .aload 0), (432, .iload 3), (433, .iconst 2), (434, .iadd), (435, .iaload), (436, .aload 0), (437, .iload 3), (438, .iconst 3), (439, .iadd), (440, .iaload), (441, .invokevirtual 15876109), (444, .if_icmp .eq 1841), (447, .iconst 0), (448, .freturn), (449, .aload 1), (450, .aload 0)]
def cl_5 : List (Nat × Instr) := [(451, .iload 3), (452, .iconst 1), (453, .iadd), (454, .iaload), (455, .aload 0), (456, .iload 3), (457, .iconst 2), (458, .iadd), (459, .iaload), (460, .invokevirtual 9515020), (463, .aload 2), (464, .aload 0), (465, .iload 3), (466, .iconst 1), (467, .iadd), (468, .iaload), (469, .aload 0), (470, .iload 3), (471, .iconst 2), (472, .iadd), (473, .iaload), (474, .invokevirtual 16068621), (477, .if_icmp .eq 1841), (480, .iconst 0), (481, .freturn), (482, .aload 1), (483, .aload 0), (484, .iload 3), (485, .iconst 1), (486, .iadd), (487, .iaload), (488, .aload 0), (489, .iload 3), (490, .iconst 2), (491, .iadd), (492, .iaload), (493, .aload 0), (494, .iload 3), (495, .iconst 3), (496, .iadd)]
def cl_6 : List (Nat × Instr) := [(497, .iaload), (498, .invokevirtual 9584652), (501, .aload 2), (502, .aload 0), (503, .iload 3), (504, .iconst 1), (505, .iadd), (506, .iaload), (507, .aload 0), (508, .iload 3), (509, .iconst 2), (510, .iadd), (511, .iaload), (512, .aload 0), (513, .iload 3), (514, .iconst 3), (515, .iadd), (516, .iaload), (517, .invokevirtual 16400397), (520, .if_icmp .eq 1841), (523, .iconst 0), (524, .freturn), (525, .aload 1), (526, .aload 0), (527, .iload 3), (528, .iconst 1), (529, .iadd), (530, .iaload), (531, .aload 0), (532, .iload 3), (533, .iconst 2), (534, .iadd), (535, .iaload), (536, .aload 0), (537, .iload 3), (538, .iconst 3), (539, .iadd), (540, .iaload), (541, .invokevirtual 9650188), (544, .aload 2)]
def cl_7 : List (Nat × Instr) := [(545, .aload 0), (546, .iload 3), (547, .iconst 1), (548, .iadd), (549, .iaload), (550, .aload 0), (551, .iload 3), (552, .iconst 2), (553, .iadd), (554, .iaload), (555, .aload 0), (556, .iload 3), (557, .iconst 3), (558, .iadd), (559, .iaload), (560, .invokevirtual 16203789), (563, .if_icmp .eq 1841), (566, .iconst 0), (567, .freturn), (568, .aload 1), (569, .aload 0), (570, .iload 3), (571, .iconst 1), (572, .iadd), (573, .iaload), (574, .aload 0), (575, .iload 3), (576, .iconst 2), (577, .iadd), (578, .iaload), (579, .aload 0), (580, .iload 3), (581, .iconst 3), (582, .iadd), (583, .iaload), (584, .invokevirtual 9715724), (587, .aload 2), (588, .aload 0), (589, .iload 3), (590, .iconst 1)]
def cl_8 : List (Nat × Instr) := [(591, .iadd), (592, .iaload), (593, .aload 0), (594, .iload 3), (595, .iconst 2), (596, .iadd), (597, .iaload), (598, .aload 0), (599, .iload 3), (600, .iconst 3), (601, .iadd), (602, .iaload), (603, .invokevirtual 16269325), (606, .if_icmp .eq 1841), (609, .iconst 0), (610, .freturn), (611, .aload 1), (612, .aload 0), (613, .iload 3), (614, .iconst 1), (615, .iadd), (616, .iaload), (617, .invokevirtual 9773068), (620, .aload 2), (621, .aload 0), (622, .iload 3), (623, .iconst 1), (624, .iadd), (625, .iaload), (626, .invokevirtual 16654349), (629, .if_icmp .eq 1841), (632, .iconst 0), (633, .freturn), (634, .aload 1), (635, .aload 0), (636, .iload 3), (637, .iconst 1), (638, .iadd), (639, .iaload), (640, .aload 0)]
def cl_9 : List (Nat × Instr) := [(641, .iload 3), (642, .iconst 2), (643, .iadd), (644, .iaload), (645, .aload 0), (646, .iload 3), (647, .iconst 3), (648, .iadd), (649, .iaload), (650, .aload 0), (651, .iload 3), (652, .iconst 4), (653, .iadd), (654, .iaload), (655, .invokevirtual 9850892), (658, .aload 2), (659, .aload 0), (660, .iload 3), (661, .iconst 1), (662, .iadd), (663, .iaload), (664, .aload 0), (665, .iload 3), (666, .iconst 2), (667, .iadd), (668, .iaload), (669, .aload 0), (670, .iload 3), (671, .iconst 3), (672, .iadd), (673, .iaload), (674, .aload 0), (675, .iload 3), (676, .iconst 4), (677, .iadd), (678, .iaload), (679, .invokevirtual 18042893), (682, .if_icmp .eq 1841), (685, .iconst 0), (686, .freturn)]
def cl_10 : List (Nat × Instr) := [(687, .aload 1), (688, .aload 0), (689, .iload 3), (690, .iconst 1), (691, .iadd), (692, .iaload), (693, .invokevirtual 9904140), (696, .aload 2), (697, .aload 0), (698, .iload 3), (699, .iconst 1), (700, .iadd), (701, .iaload), (702, .invokevirtual 18161677), (705, .if_icmp .eq 1841), (708, .iconst 0), (709, .freturn), (710, .aload 1), (711, .aload 0), (712, .iload 3), (713, .iconst 1), (714, .iadd), (715, .iaload), (716, .aload 0), (717, .iload 3), (718, .iconst 2), (719, .iadd), (720, .iaload), (721, .invokevirtual 9973772), (724, .aload 2), (725, .aload 0), (726, .iload 3), (727, .iconst 1), (728, .iadd), (729, .iaload), (730, .aload 0), (731, .iload 3), (732, .iconst 2), (733, .iadd), (734, .iaload)]
def cl_11 : List (Nat × Instr) := [(735, .invokevirtual 18231309), (738, .if_icmp .eq 1841), (741, .iconst 0), (742, .freturn), (743, .aload 1), (744, .aload 0), (745, .iload 3), (746, .iconst 1), (747, .iadd), (748, .iaload), (749, .aload 0), (750, .iload 3), (751, .iconst 2), (752, .iadd), (753, .iaload), (754, .aload 0), (755, .iload 3), (756, .iconst 3), (757, .iadd), (758, .iaload), (759, .aload 0), (760, .iload 3), (761, .iconst 4), (762, .iadd), (763, .iaload), (764, .aload 0), (765, .iload 3), (766, .iconst 5), (767, .iadd), (768, .iaload), (769, .invokevirtual 10051596), (772, .aload 2), (773, .aload 0), (774, .iload 3), (775, .iconst 1), (776, .iadd), (777, .iaload), (778, .aload 0), (779, .iload 3), (780, .iconst 2)]
def cl_12 : List (Nat × Instr) := [(781, .iadd), (782, .iaload), (783, .aload 0), (784, .iload 3), (785, .iconst 3), (786, .iadd), (787, .iaload), (788, .aload 0), (789, .iload 3), (790, .iconst 4), (791, .iadd), (792, .iaload), (793, .aload 0), (794, .iload 3), (795, .iconst 5), (796, .iadd), (797, .iaload), (798, .invokevirtual 21061645), (801, .if_icmp .eq 1841), (804, .iconst 0), (805, .freturn), (806, .aload 1), (807, .aload 0), (808, .iload 3), (809, .iconst 1), (810, .iadd), (811, .iaload), (812, .invokevirtual 10100748), (815, .aload 2), (816, .aload 0), (817, .iload 3), (818, .iconst 1), (819, .iadd), (820, .iaload), (821, .invokevirtual 22093837), (824, .if_icmp .eq 1841), (827, .iconst 0), (828, .freturn), (829, .aload 1), (830, .invokevirtual 10162188)]
def cl_13 : List (Nat × Instr) := [(833, .aload 2), (834, .invokevirtual 14356493), (837, .if_icmp .eq 1841), (840, .iconst 0), (841, .freturn), (842, .aload 1), (843, .invokevirtual 10227724), (846, .aload 2), (847, .invokevirtual 14422029), (850, .if_icmp .eq 1841), (853, .iconst 0), (854, .freturn), (855, .aload 1), (856, .aload 0), (857, .iload 3), (858, .iconst 1), (859, .iadd), (860, .iaload), (861, .aload 0), (862, .iload 3), (863, .iconst 2), (864, .iadd), (865, .iaload), (866, .aload 0), (867, .iload 3), (868, .iconst 3), (869, .iadd), (870, .iaload), (871, .invokevirtual 10305548), (874, .aload 2), (875, .aload 0), (876, .iload 3), (877, .iconst 1), (878, .iadd), (879, .iaload), (880, .aload 0), (881, .iload 3), (882, .iconst 2), (883, .iadd), (884, .iaload)]
def cl_14 : List (Nat × Instr) := [(885, .aload 0), (886, .iload 3), (887, .iconst 3), (888, .iadd), (889, .iaload), (890, .invokevirtual 18890765), (893, .if_icmp .eq 1841), (896, .iconst 0), (897, .freturn), (898, .aload 1), (899, .aload 0), (900, .iload 3), (901, .iconst 1), (902, .iadd), (903, .iaload), (904, .aload 0), (905, .iload 3), (906, .iconst 2), (907, .iadd), (908, .iaload), (909, .invokevirtual 10366988), (912, .aload 2), (913, .aload 0), (914, .iload 3), (915, .iconst 1), (916, .iadd), (917, .iaload), (918, .aload 0), (919, .iload 3), (920, .iconst 2), (921, .iadd), (922, .iaload), (923, .invokevirtual 18821133), (926, .if_icmp .eq 1841), (929, .iconst 0), (930, .freturn), (931, .aload 1), (932, .aload 0), (933, .iload 3), (934, .iconst 1)]
def cl_15 : List (Nat × Instr) := [(935, .iadd), (936, .iaload), (937, .aload 0), (938, .iload 3), (939, .iconst 2), (940, .iadd), (941, .iaload), (942, .aload 0), (943, .iload 3), (944, .iconst 3), (945, .iadd), (946, .iaload), (947, .invokevirtual 10436620), (950, .aload 2), (951, .aload 0), (952, .iload 3), (953, .iconst 1), (954, .iadd), (955, .iaload), (956, .aload 0), (957, .iload 3), (958, .iconst 2), (959, .iadd), (960, .iaload), (961, .aload 0), (962, .iload 3), (963, .iconst 3), (964, .iadd), (965, .iaload), (966, .invokevirtual 18956301), (969, .if_icmp .eq 1841), (972, .iconst 0), (973, .freturn), (974, .aload 1), (975, .aload 0), (976, .iload 3), (977, .iconst 1), (978, .iadd), (979, .iaload), (980, .aload 0)]
def cl_16 : List (Nat × Instr) := [(981, .iload 3), (982, .iconst 2), (983, .iadd), (984, .iaload), (985, .invokevirtual 10498060), (988, .aload 2), (989, .aload 0), (990, .iload 3), (991, .iconst 1), (992, .iadd), (993, .iaload), (994, .aload 0), (995, .iload 3), (996, .iconst 2), (997, .iadd), (998, .iaload), (999, .invokevirtual 19017741), (1002, .if_icmp .eq 1841), (1005, .iconst 0), (1006, .freturn), (1007, .aload 1), (1008, .aload 0), (1009, .iload 3), (1010, .iconst 1), (1011, .iadd), (1012, .iaload), (1013, .invokevirtual 10559500), (1016, .aload 2), (1017, .aload 0), (1018, .iload 3), (1019, .iconst 1), (1020, .iadd), (1021, .iaload), (1022, .invokevirtual 19079181), (1025, .if_icmp .eq 1841), (1028, .iconst 0), (1029, .freturn), (1030, .aload 1), (1031, .aload 0), (1032, .iload 3)]
def cl_17 : List (Nat × Instr) := [(1033, .iconst 1), (1034, .iadd), (1035, .iaload), (1036, .aload 0), (1037, .iload 3), (1038, .iconst 2), (1039, .iadd), (1040, .iaload), (1041, .invokevirtual 10629132), (1044, .aload 2), (1045, .aload 0), (1046, .iload 3), (1047, .iconst 1), (1048, .iadd), (1049, .iaload), (1050, .aload 0), (1051, .iload 3), (1052, .iconst 2), (1053, .iadd), (1054, .iaload), (1055, .invokevirtual 19148813), (1058, .if_icmp .eq 1841), (1061, .iconst 0), (1062, .freturn), (1063, .aload 1), (1064, .aload 0), (1065, .iload 3), (1066, .iconst 1), (1067, .iadd), (1068, .iaload), (1069, .aload 0), (1070, .iload 3), (1071, .iconst 2), (1072, .iadd), (1073, .iaload), (1074, .invokevirtual 10694668), (1077, .aload 2), (1078, .aload 0), (1079, .iload 3), (1080, .iconst 1)]
def cl_18 : List (Nat × Instr) := [(1081, .iadd), (1082, .iaload), (1083, .aload 0), (1084, .iload 3), (1085, .iconst 2), (1086, .iadd), (1087, .iaload), (1088, .invokevirtual 19214349), (1091, .if_icmp .eq 1841), (1094, .iconst 0), (1095, .freturn), (1096, .aload 1), (1097, .invokevirtual 10752012), (1100, .aload 2), (1101, .invokevirtual 19271693), (1104, .if_icmp .eq 1841), (1107, .iconst 0), (1108, .freturn), (1109, .aload 1), (1110, .aload 0), (1111, .iload 3), (1112, .iconst 1), (1113, .iadd), (1114, .iaload), (1115, .invokevirtual 10821644), (1118, .aload 2), (1119, .aload 0), (1120, .iload 3), (1121, .iconst 1), (1122, .iadd), (1123, .iaload), (1124, .invokevirtual 19472397), (1127, .if_icmp .eq 1841), (1130, .iconst 0), (1131, .freturn), (1132, .aload 1), (1133, .aload 0), (1134, .iload 3), (1135, .iconst 1), (1136, .iadd)]
def cl_19 : List (Nat × Instr) := [(1137, .iaload), (1138, .aload 0), (1139, .iload 3), (1140, .iconst 2), (1141, .iadd), (1142, .iaload), (1143, .aload 0), (1144, .iload 3), (1145, .iconst 3), (1146, .iadd), (1147, .iaload), (1148, .invokevirtual 10895372), (1151, .aload 2), (1152, .aload 0), (1153, .iload 3), (1154, .iconst 1), (1155, .iadd), (1156, .iaload), (1157, .aload 0), (1158, .iload 3), (1159, .iconst 2), (1160, .iadd), (1161, .iaload), (1162, .aload 0), (1163, .iload 3), (1164, .iconst 3), (1165, .iadd), (1166, .iaload), (1167, .invokevirtual 19546125), (1170, .if_icmp .eq 1841), (1173, .iconst 0), (1174, .freturn), (1175, .aload 1), (1176, .aload 0), (1177, .iload 3), (1178, .iconst 1), (1179, .iadd), (1180, .iaload), (1181, .aload 0), (1182, .iload 3)]
def cl_20 : List (Nat × Instr) := [(1183, .iconst 2), (1184, .iadd), (1185, .iaload), (1186, .invokevirtual 10956812), (1189, .aload 2), (1190, .aload 0), (1191, .iload 3), (1192, .iconst 1), (1193, .iadd), (1194, .iaload), (1195, .aload 0), (1196, .iload 3), (1197, .iconst 2), (1198, .iadd), (1199, .iaload), (1200, .invokevirtual 19607565), (1203, .if_icmp .eq 1841), (1206, .iconst 0), (1207, .freturn), (1208, .aload 1), (1209, .aload 0), (1210, .iload 3), (1211, .iconst 1), (1212, .iadd), (1213, .iaload), (1214, .aload 0), (1215, .iload 3), (1216, .iconst 2), (1217, .iadd), (1218, .iaload), (1219, .aload 0), (1220, .iload 3), (1221, .iconst 3), (1222, .iadd), (1223, .iaload), (1224, .invokevirtual 11026444), (1227, .aload 2), (1228, .aload 0), (1229, .iload 3), (1230, .iconst 1)]
def cl_21 : List (Nat × Instr) := [(1231, .iadd), (1232, .iaload), (1233, .aload 0), (1234, .iload 3), (1235, .iconst 2), (1236, .iadd), (1237, .iaload), (1238, .aload 0), (1239, .iload 3), (1240, .iconst 3), (1241, .iadd), (1242, .iaload), (1243, .invokevirtual 19677197), (1246, .if_icmp .eq 1841), (1249, .iconst 0), (1250, .freturn), (1251, .aload 1), (1252, .aload 0), (1253, .iload 3), (1254, .iconst 1), (1255, .iadd), (1256, .iaload), (1257, .aload 0), (1258, .iload 3), (1259, .iconst 2), (1260, .iadd), (1261, .iaload), (1262, .aload 0), (1263, .iload 3), (1264, .iconst 3), (1265, .iadd), (1266, .iaload), (1267, .aload 0), (1268, .iload 3), (1269, .iconst 4), (1270, .iadd), (1271, .iaload), (1272, .invokevirtual 11096076), (1275, .aload 2), (1276, .aload 0)]
def cl_22 : List (Nat × Instr) := [(1277, .iload 3), (1278, .iconst 1), (1279, .iadd), (1280, .iaload), (1281, .aload 0), (1282, .iload 3), (1283, .iconst 2), (1284, .iadd), (1285, .iaload), (1286, .aload 0), (1287, .iload 3), (1288, .iconst 3), (1289, .iadd), (1290, .iaload), (1291, .aload 0), (1292, .iload 3), (1293, .iconst 4), (1294, .iadd), (1295, .iaload), (1296, .invokevirtual 19812365), (1299, .if_icmp .eq 1841), (1302, .iconst 0), (1303, .freturn), (1304, .aload 1), (1305, .aload 0), (1306, .iload 3), (1307, .iconst 1), (1308, .iadd), (1309, .iaload), (1310, .aload 0), (1311, .iload 3), (1312, .iconst 2), (1313, .iadd), (1314, .iaload), (1315, .invokevirtual 11153420), (1318, .aload 2), (1319, .aload 0), (1320, .iload 3), (1321, .iconst 1), (1322, .iadd)]
def cl_23 : List (Nat × Instr) := [(1323, .iaload), (1324, .aload 0), (1325, .iload 3), (1326, .iconst 2), (1327, .iadd), (1328, .iaload), (1329, .invokevirtual 19869709), (1332, .if_icmp .eq 1841), (1335, .iconst 0), (1336, .freturn), (1337, .aload 1), (1338, .aload 0), (1339, .iload 3), (1340, .iconst 1), (1341, .iadd), (1342, .iaload), (1343, .aload 0), (1344, .iload 3), (1345, .iconst 2), (1346, .iadd), (1347, .iaload), (1348, .aload 0), (1349, .iload 3), (1350, .iconst 3), (1351, .iadd), (1352, .iaload), (1353, .invokevirtual 11223052), (1356, .aload 2), (1357, .aload 0), (1358, .iload 3), (1359, .iconst 1), (1360, .iadd), (1361, .iaload), (1362, .aload 0), (1363, .iload 3), (1364, .iconst 2), (1365, .iadd), (1366, .iaload), (1367, .aload 0), (1368, .iload 3)]
def cl_24 : List (Nat × Instr) := [(1369, .iconst 3), (1370, .iadd), (1371, .iaload), (1372, .invokevirtual 20004877), (1375, .if_icmp .eq 1841), (1378, .iconst 0), (1379, .freturn), (1380, .aload 1), (1381, .aload 0), (1382, .iload 3), (1383, .iconst 1), (1384, .iadd), (1385, .iaload), (1386, .aload 0), (1387, .iload 3), (1388, .iconst 2), (1389, .iadd), (1390, .iaload), (1391, .aload 0), (1392, .iload 3), (1393, .iconst 3), (1394, .iadd), (1395, .iaload), (1396, .invokevirtual 11288588), (1399, .aload 2), (1400, .aload 0), (1401, .iload 3), (1402, .iconst 1), (1403, .iadd), (1404, .iaload), (1405, .aload 0), (1406, .iload 3), (1407, .iconst 2), (1408, .iadd), (1409, .iaload), (1410, .aload 0), (1411, .iload 3), (1412, .iconst 3), (1413, .iadd), (1414, .iaload)]
def cl_25 : List (Nat × Instr) := [(1415, .invokevirtual 20135949), (1418, .if_icmp .eq 1841), (1421, .iconst 0), (1422, .freturn), (1423, .aload 1), (1424, .aload 0), (1425, .iload 3), (1426, .iconst 1), (1427, .iadd), (1428, .iaload), (1429, .invokevirtual 11345932), (1432, .aload 2), (1433, .aload 0), (1434, .iload 3), (1435, .iconst 1), (1436, .iadd), (1437, .iaload), (1438, .invokevirtual 20258829), (1441, .if_icmp .eq 1841), (1444, .iconst 0), (1445, .freturn), (1446, .aload 1), (1447, .invokevirtual 11407372), (1450, .aload 2), (1451, .invokevirtual 20320269), (1454, .if_icmp .eq 1841), (1457, .iconst 0), (1458, .freturn), (1459, .aload 1), (1460, .aload 0), (1461, .iload 3), (1462, .iconst 1), (1463, .iadd), (1464, .iaload), (1465, .invokevirtual 11477004), (1468, .aload 2), (1469, .aload 0), (1470, .iload 3), (1471, .iconst 1), (1472, .iadd)]
def cl_26 : List (Nat × Instr) := [(1473, .iaload), (1474, .invokevirtual 20389901), (1477, .if_icmp .eq 1841), (1480, .iconst 0), (1481, .freturn), (1482, .aload 1), (1483, .aload 0), (1484, .iload 3), (1485, .iconst 1), (1486, .iadd), (1487, .iaload), (1488, .aload 0), (1489, .iload 3), (1490, .iconst 2), (1491, .iadd), (1492, .iaload), (1493, .invokevirtual 11546636), (1496, .aload 2), (1497, .aload 0), (1498, .iload 3), (1499, .iconst 1), (1500, .iadd), (1501, .iaload), (1502, .aload 0), (1503, .iload 3), (1504, .iconst 2), (1505, .iadd), (1506, .iaload), (1507, .invokevirtual 20459533), (1510, .if_icmp .eq 1841), (1513, .iconst 0), (1514, .freturn), (1515, .aload 1), (1516, .aload 0), (1517, .iload 3), (1518, .iconst 1), (1519, .iadd), (1520, .iaload), (1521, .invokevirtual 11608076), (1524, .aload 2)]
def cl_27 : List (Nat × Instr) := [(1525, .aload 0), (1526, .iload 3), (1527, .iconst 1), (1528, .iadd), (1529, .iaload), (1530, .invokevirtual 16523277), (1533, .if_icmp .eq 1841), (1536, .iconst 0), (1537, .freturn), (1538, .aload 1), (1539, .aload 0), (1540, .iload 3), (1541, .iconst 1), (1542, .iadd), (1543, .iaload), (1544, .aload 0), (1545, .iload 3), (1546, .iconst 2), (1547, .iadd), (1548, .iaload), (1549, .invokevirtual 11677708), (1552, .aload 2), (1553, .aload 0), (1554, .iload 3), (1555, .iconst 1), (1556, .iadd), (1557, .iaload), (1558, .aload 0), (1559, .iload 3), (1560, .iconst 2), (1561, .iadd), (1562, .iaload), (1563, .invokevirtual 20656141), (1566, .if_icmp .eq 1841), (1569, .iconst 0), (1570, .freturn), (1571, .aload 1), (1572, .aload 0), (1573, .iload 3), (1574, .iconst 1)]
def cl_28 : List (Nat × Instr) := [(1575, .iadd), (1576, .iaload), (1577, .aload 0), (1578, .iload 3), (1579, .iconst 2), (1580, .iadd), (1581, .iaload), (1582, .aload 0), (1583, .iload 3), (1584, .iconst 3), (1585, .iadd), (1586, .iaload), (1587, .invokevirtual 11747340), (1590, .aload 2), (1591, .aload 0), (1592, .iload 3), (1593, .iconst 1), (1594, .iadd), (1595, .iaload), (1596, .aload 0), (1597, .iload 3), (1598, .iconst 2), (1599, .iadd), (1600, .iaload), (1601, .aload 0), (1602, .iload 3), (1603, .iconst 3), (1604, .iadd), (1605, .iaload), (1606, .invokevirtual 20791309), (1609, .if_icmp .eq 1841), (1612, .iconst 0), (1613, .freturn), (1614, .aload 1), (1615, .aload 0), (1616, .iload 3), (1617, .iconst 1), (1618, .iadd), (1619, .iaload), (1620, .aload 0)]
def cl_29 : List (Nat × Instr) := [(1621, .iload 3), (1622, .iconst 2), (1623, .iadd), (1624, .iaload), (1625, .invokevirtual 11808780), (1628, .aload 2), (1629, .aload 0), (1630, .iload 3), (1631, .iconst 1), (1632, .iadd), (1633, .iaload), (1634, .aload 0), (1635, .iload 3), (1636, .iconst 2), (1637, .iadd), (1638, .iaload), (1639, .invokevirtual 20852749), (1642, .if_icmp .eq 1841), (1645, .iconst 0), (1646, .freturn), (1647, .aload 1), (1648, .aload 0), (1649, .iload 3), (1650, .iconst 1), (1651, .iadd), (1652, .iaload), (1653, .aload 0), (1654, .iload 3), (1655, .iconst 2), (1656, .iadd), (1657, .iaload), (1658, .aload 0), (1659, .iload 3), (1660, .iconst 3), (1661, .iadd), (1662, .iaload), (1663, .aload 0), (1664, .iload 3), (1665, .iconst 4), (1666, .iadd)]
def cl_30 : List (Nat × Instr) := [(1667, .iaload), (1668, .invokevirtual 11882508), (1671, .aload 2), (1672, .aload 0), (1673, .iload 3), (1674, .iconst 1), (1675, .iadd), (1676, .iaload), (1677, .aload 0), (1678, .iload 3), (1679, .iconst 2), (1680, .iadd), (1681, .iaload), (1682, .aload 0), (1683, .iload 3), (1684, .iconst 3), (1685, .iadd), (1686, .iaload), (1687, .aload 0), (1688, .iload 3), (1689, .iconst 4), (1690, .iadd), (1691, .iaload), (1692, .invokevirtual 20926477), (1695, .if_icmp .eq 1841), (1698, .iconst 0), (1699, .freturn), (1700, .aload 1), (1701, .aload 0), (1702, .iload 3), (1703, .iconst 1), (1704, .iadd), (1705, .iaload), (1706, .aload 0), (1707, .iload 3), (1708, .iconst 2), (1709, .iadd), (1710, .iaload), (1711, .invokevirtual 11939852), (1714, .aload 2)]
def cl_31 : List (Nat × Instr) := [(1715, .aload 0), (1716, .iload 3), (1717, .iconst 1), (1718, .iadd), (1719, .iaload), (1720, .aload 0), (1721, .iload 3), (1722, .iconst 2), (1723, .iadd), (1724, .iaload), (1725, .invokevirtual 16723981), (1728, .if_icmp .eq 1841), (1731, .iconst 0), (1732, .freturn), (1733, .aload 1), (1734, .invokevirtual 11997196), (1737, .aload 2), (1738, .invokevirtual 21696525), (1741, .if_icmp .eq 1841), (1744, .iconst 0), (1745, .freturn), (1746, .aload 1), (1747, .aload 0), (1748, .iload 3), (1749, .iconst 1), (1750, .iadd), (1751, .iaload), (1752, .aload 0), (1753, .iload 3), (1754, .iconst 2), (1755, .iadd), (1756, .iaload), (1757, .invokevirtual 12070924), (1760, .aload 2), (1761, .aload 0), (1762, .iload 3), (1763, .iconst 1), (1764, .iadd), (1765, .iaload), (1766, .aload 0)]
def cl_32 : List (Nat × Instr) := [(1767, .iload 3), (1768, .iconst 2), (1769, .iadd), (1770, .iaload), (1771, .invokevirtual 22163469), (1774, .if_icmp .eq 1841), (1777, .iconst 0), (1778, .freturn), (1779, .aload 1), (1780, .invokevirtual 12128268), (1783, .aload 2), (1784, .invokevirtual 14487565), (1787, .if_icmp .eq 1841), (1790, .iconst 0), (1791, .freturn), (1792, .aload 1), (1793, .invokevirtual 12193804), (1796, .aload 2), (1797, .invokevirtual 14553101), (1800, .if_icmp .eq 1841), (1803, .iconst 0), (1804, .freturn), (1805, .aload 1), (1806, .invokevirtual 12259340), (1809, .aload 2), (1810, .invokevirtual 20516877), (1813, .if_icmp .eq 1841), (1816, .iconst 0), (1817, .freturn), (1818, .aload 1), (1819, .aload 0), (1820, .iload 3), (1821, .iconst 1), (1822, .iadd), (1823, .iaload), (1824, .invokevirtual 12328972), (1827, .aload 2), (1828, .aload 0), (1829, .iload 3), (1830, .iconst 1)]
def cl_33 : List (Nat × Instr) := [(1831, .iadd), (1832, .iaload), (1833, .invokevirtual 22224909), (1836, .if_icmp .eq 1841), (1839, .iconst 0), (1840, .freturn), (1841, .iinc 3 6), (1844, .goto 18), (1847, .iconst 1), (1848, .freturn)]
def cs_33 : List (Nat × Instr) := cl_33 ++ []
def cs_32 : List (Nat × Instr) := cl_32 ++ cs_33
def cs_31 : List (Nat × Instr) := cl_31 ++ cs_32
def cs_30 : List (Nat × Instr) := cl_30 ++ cs_31
def cs_29 : List (Nat × Instr) := cl_29 ++ cs_30
def cs_28 : List (Nat × Instr) := cl_28 ++ cs_29
def cs_27 : List (Nat × Instr) := cl_27 ++ cs_28
def cs_26 : List (Nat × Instr) := cl_26 ++ cs_27
def cs_25 : List (Nat × Instr) := cl_25 ++ cs_26
def cs_24 : List (Nat × Instr) := cl_24 ++ cs_25
def cs_23 : List (Nat × Instr) := cl_23 ++ cs_24
def cs_22 : List (Nat × Instr) := cl_22 ++ cs_23
def cs_21 : List (Nat × Instr) := cl_21 ++ cs_22
def cs_20 : List (Nat × Instr) := cl_20 ++ cs_21
def cs_19 : List (Nat × Instr) := cl_19 ++ cs_20
def cs_18 : List (Nat × Instr) := cl_18 ++ cs_19
def cs_17 : List (Nat × Instr) := cl_17 ++ cs_18
def cs_16 : List (Nat × Instr) := cl_16 ++ cs_17
def cs_15 : List (Nat × Instr) := cl_15 ++ cs_16
def cs_14 : List (Nat × Instr) := cl_14 ++ cs_15
def cs_13 : List (Nat × Instr) := cl_13 ++ cs_14
def cs_12 : List (Nat × Instr) := cl_12 ++ cs_13
def cs_11 : List (Nat × Instr) := cl_11 ++ cs_12
def cs_10 : List (Nat × Instr) := cl_10 ++ cs_11
def cs_9 : List (Nat × Instr) := cl_9 ++ cs_10
def cs_8 : List (Nat × Instr) := cl_8 ++ cs_9
def cs_7 : List (Nat × Instr) := cl_7 ++ cs_8
def cs_6 : List (Nat × Instr) := cl_6 ++ cs_7
def cs_5 : List (Nat × Instr) := cl_5 ++ cs_6
def cs_4 : List (Nat × Instr) := cl_4 ++ cs_5
def cs_3 : List (Nat × Instr) := cl_3 ++ cs_4
def cs_2 : List (Nat × Instr) := cl_2 ++ cs_3
def cs_1 : List (Nat × Instr) := cl_1 ++ cs_2
def cs_0 : List (Nat × Instr) := cl_0 ++ cs_1
def c_Law : List (Nat × Instr) := cs_0
def t_Law : List mm_T := [(18, 1847, [2, 2, 2, 0], [1847])]
def q_Law : mm_M := (c_Law, 4, t_Law)
def mm_pl_Law : List (Nat × Instr) := [(7, .new 785), (9, .invokespecial 9115916), (10, .new 883), (12, .invokespecial 13965581), (13, .invokevirtual 9191436), (17, .invokevirtual 15417357), (18, .invokevirtual 9261068), (22, .invokevirtual 15552525), (23, .invokevirtual 9318412), (27, .invokevirtual 15609869), (28, .invokevirtual 9383948), (31, .invokevirtual 15675405), (32, .invokevirtual 9453580), (35, .invokevirtual 15876109), (36, .invokevirtual 9515020), (39, .invokevirtual 16068621), (40, .invokevirtual 9584652), (43, .invokevirtual 16400397), (44, .invokevirtual 9650188), (47, .invokevirtual 16203789), (48, .invokevirtual 9715724), (51, .invokevirtual 16269325), (52, .invokevirtual 9773068), (56, .invokevirtual 16654349), (57, .invokevirtual 9850892), (60, .invokevirtual 18042893), (61, .invokevirtual 9904140), (64, .invokevirtual 18161677), (65, .invokevirtual 9973772), (68, .invokevirtual 18231309), (69, .invokevirtual 10051596), (73, .invokevirtual 21061645), (74, .invokevirtual 10100748), (77, .invokevirtual 22093837), (78, .invokevirtual 10162188), (82, .invokevirtual 14356493), (83, .invokevirtual 10227724), (86, .invokevirtual 14422029), (87, .invokevirtual 10305548), (90, .invokevirtual 18890765), (91, .invokevirtual 10366988), (94, .invokevirtual 18821133), (95, .invokevirtual 10436620), (98, .invokevirtual 18956301), (99, .invokevirtual 10498060), (102, .invokevirtual 19017741), (103, .invokevirtual 10559500), (106, .invokevirtual 19079181), (107, .invokevirtual 10629132), (110, .invokevirtual 19148813), (111, .invokevirtual 10694668), (114, .invokevirtual 19214349), (115, .invokevirtual 10752012), (118, .invokevirtual 19271693), (119, .invokevirtual 10821644), (122, .invokevirtual 19472397), (123, .invokevirtual 10895372), (126, .invokevirtual 19546125), (127, .invokevirtual 10956812), (130, .invokevirtual 19607565), (131, .invokevirtual 11026444), (134, .invokevirtual 19677197), (135, .invokevirtual 11096076), (138, .invokevirtual 19812365), (139, .invokevirtual 11153420), (142, .invokevirtual 19869709), (143, .invokevirtual 11223052), (146, .invokevirtual 20004877), (147, .invokevirtual 11288588), (150, .invokevirtual 20135949), (151, .invokevirtual 11345932), (154, .invokevirtual 20258829), (155, .invokevirtual 11407372), (158, .invokevirtual 20320269), (159, .invokevirtual 11477004), (162, .invokevirtual 20389901), (163, .invokevirtual 11546636), (166, .invokevirtual 20459533), (167, .invokevirtual 11608076), (170, .invokevirtual 16523277), (171, .invokevirtual 11677708), (174, .invokevirtual 20656141), (175, .invokevirtual 11747340), (178, .invokevirtual 20791309), (179, .invokevirtual 11808780), (182, .invokevirtual 20852749), (183, .invokevirtual 11882508), (186, .invokevirtual 20926477), (187, .invokevirtual 11939852), (190, .invokevirtual 16723981), (191, .invokevirtual 11997196), (194, .invokevirtual 21696525), (195, .invokevirtual 12070924), (198, .invokevirtual 22163469), (199, .invokevirtual 12128268), (202, .invokevirtual 14487565), (203, .invokevirtual 12193804), (206, .invokevirtual 14553101), (207, .invokevirtual 12259340), (210, .invokevirtual 20516877), (211, .invokevirtual 12328972), (214, .invokevirtual 22224909)]
set_option maxRecDepth 20000 in
theorem mm_pk_Law : ∀ q ∈ mm_pl_Law, mm_PK "FewRectanglesLaw" q.1 q.2 := mm_pool_g [[139, 140, 118], [118, 141, 142, 0], [1590, 1591, 131], [131, 1592, 1593, 0], [118, 566, 567, 568], [131, 1784, 1785, 1786], [118, 642, 643, 644], [131, 1825, 1826, 1827], [118, 665, 666, 667], [131, 1840, 1841, 1842], [118, 677, 678, 679], [131, 1844, 1845, 1846], [118, 693, 694, 695], [131, 1854, 1855, 1856], [118, 735, 736, 737], [131, 1870, 1871, 1872], [118, 768, 769, 770], [131, 1898, 1899, 1900], [118, 779, 780, 781], [131, 1882, 1883, 1884], [118, 791, 792, 793], [131, 1894, 1895, 1896], [118, 799, 800, 801], [131, 1918, 1919, 1920], [118, 818, 819, 820], [131, 1932, 1933, 1934], [118, 1050, 1051, 1052], [131, 2021, 2022, 2023], [118, 1055, 1056, 1057], [131, 2029, 2030, 2031], [118, 1063, 1064, 1065], [131, 2213, 2214, 2215], [118, 1090, 1091, 1092], [131, 2275, 2276, 2277], [118, 1131, 1132, 1133], [131, 1764, 1765, 1766], [118, 1139, 1140, 1141], [131, 1772, 1773, 1774], [118, 1147, 1148, 1149], [131, 2072, 2073, 2074], [118, 1205, 1206, 1207], [131, 2033, 2034, 2035], [118, 1244, 1245, 1246], [131, 2077, 2078, 2079], [118, 1251, 1252, 1253], [131, 2081, 2082, 2083], [118, 1259, 1260, 1261], [131, 2085, 2086, 2087], [118, 1265, 1266, 1267], [131, 2090, 2091, 2092], [118, 1274, 1275, 1276], [131, 2094, 2095, 2096], [118, 1289, 1290, 1291], [131, 2099, 2100, 2101], [118, 1293, 1294, 1295], [131, 2104, 2105, 2106], [118, 1323, 1324, 1325], [131, 2116, 2117, 2118], [118, 1333, 1334, 1335], [131, 2120, 2121, 2122], [118, 1338, 1339, 1340], [131, 2124, 2125, 2126], [118, 1353, 1354, 1355], [131, 2132, 2133, 2134], [118, 1376, 1377, 1378], [131, 2142, 2143, 2144], [118, 1389, 1390, 1391], [131, 2150, 2151, 2152], [118, 1393, 1394, 1395], [131, 2154, 2155, 2156], [118, 1407, 1408, 1409], [131, 2162, 2163, 2164], [118, 1420, 1421, 1422], [131, 2170, 2171, 2172], [118, 1428, 1429, 1430], [131, 2174, 2175, 2176], [118, 1436, 1437, 1438], [131, 2178, 2179, 2180], [118, 1452, 1453, 1454], [131, 1906, 1907, 1908], [118, 1461, 1462, 1463], [131, 2186, 2187, 2188], [118, 1470, 1471, 1472], [131, 2193, 2194, 2195], [118, 1474, 1475, 1476], [131, 2201, 2202, 2203], [118, 1478, 1479, 1480], [131, 2205, 2206, 2207], [118, 1496, 1497, 1498], [131, 1927, 1928, 1929], [118, 1505, 1506, 1507], [131, 2218, 2219, 2220], [118, 1561, 1562, 1563], [131, 2298, 2299, 2300], [118, 1565, 1566, 1567], [131, 1776, 1777, 1778], [118, 1570, 1571, 1572], [131, 1780, 1781, 1782], [118, 1578, 1579, 1580], [131, 2182, 2183, 2184], [118, 1586, 1587, 1588], [131, 2304, 2305, 2306]] (by decide +kernel) (by decide +kernel)
def mm_chk2 (lt : List mm_T) (pool : List (Nat × Instr)) (isI : Bool) (rt : Option FieldType) (cc : ByteArray) (nL z : Nat) : List (Nat × Instr) → Bool
  | [] => true
  | q :: tl => mm_ck lt pool isI rt cc nL q.1 (match tl with | [] => z | t :: _ => t.1) q.2 && mm_chk2 lt pool isI rt cc nL z tl
theorem mm_chk2_app {lt : List mm_T} {pool : List (Nat × Instr)} {isI : Bool} {rt : Option FieldType} {cc : ByteArray} {nL z : Nat} {b : List (Nat × Instr)} (hz : mm_nx b = z) (hb : mm_chk lt pool isI rt cc nL b = true) : ∀ a : List (Nat × Instr), mm_chk2 lt pool isI rt cc nL z a = true → mm_chk lt pool isI rt cc nL (a ++ b) = true
  | [], _ => hb
  | q :: tl, h => by
    obtain ⟨h1, h2⟩ := mm_an h
    show (mm_ck lt pool isI rt cc nL q.1 (mm_nx (tl ++ b)) q.2 && mm_chk lt pool isI rt cc nL (tl ++ b)) = true
    rw [mm_chk2_app hz hb tl h2, Bool.and_true]
    cases tl with
    | nil => rw [List.nil_append, hz]; exact h1
    | cons t ts => exact h1
set_option maxRecDepth 20000 in
theorem mm_cl_33 : mm_chk2 t_Law mm_pl_Law false ret code 4 1000000 cl_33 = true := by decide +kernel
theorem mm_cs_33 : mm_chk t_Law mm_pl_Law false ret code 4 cs_33 = true := mm_chk2_app rfl rfl cl_33 mm_cl_33
set_option maxRecDepth 20000 in
theorem mm_cl_32 : mm_chk2 t_Law mm_pl_Law false ret code 4 1831 cl_32 = true := by decide +kernel
theorem mm_cs_32 : mm_chk t_Law mm_pl_Law false ret code 4 cs_32 = true := mm_chk2_app rfl mm_cs_33 cl_32 mm_cl_32
set_option maxRecDepth 20000 in
theorem mm_cl_31 : mm_chk2 t_Law mm_pl_Law false ret code 4 1767 cl_31 = true := by decide +kernel
theorem mm_cs_31 : mm_chk t_Law mm_pl_Law false ret code 4 cs_31 = true := mm_chk2_app rfl mm_cs_32 cl_31 mm_cl_31
set_option maxRecDepth 20000 in
theorem mm_cl_30 : mm_chk2 t_Law mm_pl_Law false ret code 4 1715 cl_30 = true := by decide +kernel
theorem mm_cs_30 : mm_chk t_Law mm_pl_Law false ret code 4 cs_30 = true := mm_chk2_app rfl mm_cs_31 cl_30 mm_cl_30
set_option maxRecDepth 20000 in
theorem mm_cl_29 : mm_chk2 t_Law mm_pl_Law false ret code 4 1667 cl_29 = true := by decide +kernel
theorem mm_cs_29 : mm_chk t_Law mm_pl_Law false ret code 4 cs_29 = true := mm_chk2_app rfl mm_cs_30 cl_29 mm_cl_29
set_option maxRecDepth 20000 in
theorem mm_cl_28 : mm_chk2 t_Law mm_pl_Law false ret code 4 1621 cl_28 = true := by decide +kernel
theorem mm_cs_28 : mm_chk t_Law mm_pl_Law false ret code 4 cs_28 = true := mm_chk2_app rfl mm_cs_29 cl_28 mm_cl_28
set_option maxRecDepth 20000 in
theorem mm_cl_27 : mm_chk2 t_Law mm_pl_Law false ret code 4 1575 cl_27 = true := by decide +kernel
theorem mm_cs_27 : mm_chk t_Law mm_pl_Law false ret code 4 cs_27 = true := mm_chk2_app rfl mm_cs_28 cl_27 mm_cl_27
set_option maxRecDepth 20000 in
theorem mm_cl_26 : mm_chk2 t_Law mm_pl_Law false ret code 4 1525 cl_26 = true := by decide +kernel
theorem mm_cs_26 : mm_chk t_Law mm_pl_Law false ret code 4 cs_26 = true := mm_chk2_app rfl mm_cs_27 cl_26 mm_cl_26
set_option maxRecDepth 20000 in
theorem mm_cl_25 : mm_chk2 t_Law mm_pl_Law false ret code 4 1473 cl_25 = true := by decide +kernel
theorem mm_cs_25 : mm_chk t_Law mm_pl_Law false ret code 4 cs_25 = true := mm_chk2_app rfl mm_cs_26 cl_25 mm_cl_25
set_option maxRecDepth 20000 in
theorem mm_cl_24 : mm_chk2 t_Law mm_pl_Law false ret code 4 1415 cl_24 = true := by decide +kernel
theorem mm_cs_24 : mm_chk t_Law mm_pl_Law false ret code 4 cs_24 = true := mm_chk2_app rfl mm_cs_25 cl_24 mm_cl_24
set_option maxRecDepth 20000 in
theorem mm_cl_23 : mm_chk2 t_Law mm_pl_Law false ret code 4 1369 cl_23 = true := by decide +kernel
theorem mm_cs_23 : mm_chk t_Law mm_pl_Law false ret code 4 cs_23 = true := mm_chk2_app rfl mm_cs_24 cl_23 mm_cl_23
set_option maxRecDepth 20000 in
theorem mm_cl_22 : mm_chk2 t_Law mm_pl_Law false ret code 4 1323 cl_22 = true := by decide +kernel
theorem mm_cs_22 : mm_chk t_Law mm_pl_Law false ret code 4 cs_22 = true := mm_chk2_app rfl mm_cs_23 cl_22 mm_cl_22
set_option maxRecDepth 20000 in
theorem mm_cl_21 : mm_chk2 t_Law mm_pl_Law false ret code 4 1277 cl_21 = true := by decide +kernel
theorem mm_cs_21 : mm_chk t_Law mm_pl_Law false ret code 4 cs_21 = true := mm_chk2_app rfl mm_cs_22 cl_21 mm_cl_21
set_option maxRecDepth 20000 in
theorem mm_cl_20 : mm_chk2 t_Law mm_pl_Law false ret code 4 1231 cl_20 = true := by decide +kernel
theorem mm_cs_20 : mm_chk t_Law mm_pl_Law false ret code 4 cs_20 = true := mm_chk2_app rfl mm_cs_21 cl_20 mm_cl_20
set_option maxRecDepth 20000 in
theorem mm_cl_19 : mm_chk2 t_Law mm_pl_Law false ret code 4 1183 cl_19 = true := by decide +kernel
theorem mm_cs_19 : mm_chk t_Law mm_pl_Law false ret code 4 cs_19 = true := mm_chk2_app rfl mm_cs_20 cl_19 mm_cl_19
set_option maxRecDepth 20000 in
theorem mm_cl_18 : mm_chk2 t_Law mm_pl_Law false ret code 4 1137 cl_18 = true := by decide +kernel
theorem mm_cs_18 : mm_chk t_Law mm_pl_Law false ret code 4 cs_18 = true := mm_chk2_app rfl mm_cs_19 cl_18 mm_cl_18
set_option maxRecDepth 20000 in
theorem mm_cl_17 : mm_chk2 t_Law mm_pl_Law false ret code 4 1081 cl_17 = true := by decide +kernel
theorem mm_cs_17 : mm_chk t_Law mm_pl_Law false ret code 4 cs_17 = true := mm_chk2_app rfl mm_cs_18 cl_17 mm_cl_17
set_option maxRecDepth 20000 in
theorem mm_cl_16 : mm_chk2 t_Law mm_pl_Law false ret code 4 1033 cl_16 = true := by decide +kernel
theorem mm_cs_16 : mm_chk t_Law mm_pl_Law false ret code 4 cs_16 = true := mm_chk2_app rfl mm_cs_17 cl_16 mm_cl_16
set_option maxRecDepth 20000 in
theorem mm_cl_15 : mm_chk2 t_Law mm_pl_Law false ret code 4 981 cl_15 = true := by decide +kernel
theorem mm_cs_15 : mm_chk t_Law mm_pl_Law false ret code 4 cs_15 = true := mm_chk2_app rfl mm_cs_16 cl_15 mm_cl_15
set_option maxRecDepth 20000 in
theorem mm_cl_14 : mm_chk2 t_Law mm_pl_Law false ret code 4 935 cl_14 = true := by decide +kernel
theorem mm_cs_14 : mm_chk t_Law mm_pl_Law false ret code 4 cs_14 = true := mm_chk2_app rfl mm_cs_15 cl_14 mm_cl_14
set_option maxRecDepth 20000 in
theorem mm_cl_13 : mm_chk2 t_Law mm_pl_Law false ret code 4 885 cl_13 = true := by decide +kernel
theorem mm_cs_13 : mm_chk t_Law mm_pl_Law false ret code 4 cs_13 = true := mm_chk2_app rfl mm_cs_14 cl_13 mm_cl_13
set_option maxRecDepth 20000 in
theorem mm_cl_12 : mm_chk2 t_Law mm_pl_Law false ret code 4 833 cl_12 = true := by decide +kernel
theorem mm_cs_12 : mm_chk t_Law mm_pl_Law false ret code 4 cs_12 = true := mm_chk2_app rfl mm_cs_13 cl_12 mm_cl_12
set_option maxRecDepth 20000 in
theorem mm_cl_11 : mm_chk2 t_Law mm_pl_Law false ret code 4 781 cl_11 = true := by decide +kernel
theorem mm_cs_11 : mm_chk t_Law mm_pl_Law false ret code 4 cs_11 = true := mm_chk2_app rfl mm_cs_12 cl_11 mm_cl_11
set_option maxRecDepth 20000 in
theorem mm_cl_10 : mm_chk2 t_Law mm_pl_Law false ret code 4 735 cl_10 = true := by decide +kernel
theorem mm_cs_10 : mm_chk t_Law mm_pl_Law false ret code 4 cs_10 = true := mm_chk2_app rfl mm_cs_11 cl_10 mm_cl_10
set_option maxRecDepth 20000 in
theorem mm_cl_9 : mm_chk2 t_Law mm_pl_Law false ret code 4 687 cl_9 = true := by decide +kernel
theorem mm_cs_9 : mm_chk t_Law mm_pl_Law false ret code 4 cs_9 = true := mm_chk2_app rfl mm_cs_10 cl_9 mm_cl_9
set_option maxRecDepth 20000 in
theorem mm_cl_8 : mm_chk2 t_Law mm_pl_Law false ret code 4 641 cl_8 = true := by decide +kernel
theorem mm_cs_8 : mm_chk t_Law mm_pl_Law false ret code 4 cs_8 = true := mm_chk2_app rfl mm_cs_9 cl_8 mm_cl_8
set_option maxRecDepth 20000 in
theorem mm_cl_7 : mm_chk2 t_Law mm_pl_Law false ret code 4 591 cl_7 = true := by decide +kernel
theorem mm_cs_7 : mm_chk t_Law mm_pl_Law false ret code 4 cs_7 = true := mm_chk2_app rfl mm_cs_8 cl_7 mm_cl_7
set_option maxRecDepth 20000 in
theorem mm_cl_6 : mm_chk2 t_Law mm_pl_Law false ret code 4 545 cl_6 = true := by decide +kernel
theorem mm_cs_6 : mm_chk t_Law mm_pl_Law false ret code 4 cs_6 = true := mm_chk2_app rfl mm_cs_7 cl_6 mm_cl_6
set_option maxRecDepth 20000 in
theorem mm_cl_5 : mm_chk2 t_Law mm_pl_Law false ret code 4 497 cl_5 = true := by decide +kernel
theorem mm_cs_5 : mm_chk t_Law mm_pl_Law false ret code 4 cs_5 = true := mm_chk2_app rfl mm_cs_6 cl_5 mm_cl_5
set_option maxRecDepth 20000 in
theorem mm_cl_4 : mm_chk2 t_Law mm_pl_Law false ret code 4 451 cl_4 = true := by decide +kernel
theorem mm_cs_4 : mm_chk t_Law mm_pl_Law false ret code 4 cs_4 = true := mm_chk2_app rfl mm_cs_5 cl_4 mm_cl_4
set_option maxRecDepth 20000 in
theorem mm_cl_3 : mm_chk2 t_Law mm_pl_Law false ret code 4 405 cl_3 = true := by decide +kernel
theorem mm_cs_3 : mm_chk t_Law mm_pl_Law false ret code 4 cs_3 = true := mm_chk2_app rfl mm_cs_4 cl_3 mm_cl_3
set_option maxRecDepth 20000 in
theorem mm_cl_2 : mm_chk2 t_Law mm_pl_Law false ret code 4 355 cl_2 = true := by decide +kernel
theorem mm_cs_2 : mm_chk t_Law mm_pl_Law false ret code 4 cs_2 = true := mm_chk2_app rfl mm_cs_3 cl_2 mm_cl_2
set_option maxRecDepth 20000 in
theorem mm_cl_1 : mm_chk2 t_Law mm_pl_Law false ret code 4 307 cl_1 = true := by decide +kernel
theorem mm_cs_1 : mm_chk t_Law mm_pl_Law false ret code 4 cs_1 = true := mm_chk2_app rfl mm_cs_2 cl_1 mm_cl_1
set_option maxRecDepth 20000 in
theorem mm_cl_0 : mm_chk2 t_Law mm_pl_Law false ret code 4 263 cl_0 = true := by decide +kernel
theorem mm_cs_0 : mm_chk t_Law mm_pl_Law false ret code 4 cs_0 = true := mm_chk2_app rfl mm_cs_1 cl_0 mm_cl_0
theorem mm_chk_Law : mm_chk t_Law mm_pl_Law false ret code 4 c_Law = true := mm_cs_0
/-- what is owed of the mini run -/
def mm_PURE : Prop := ∀ (L : Nat) (scr : Nat → Int32), L ≤ 3072 → ∃ (w' : mm_W) (h' : mm_H), mm_run (mm_P 800) q_Law [(2, -1)] (mm_w0 L) (mm_h0 scr) = some ((0, 1), w', h') ∧ w'.2.1 ≤ 600001 ∧ w'.2.2 ≤ 7302250
/-! THE CLAIM OUT OF ONE WALK OF THE LAW'S BODY. Your part is whole_start (and what it stands on); all else here is the same for every law, but numbers. -/
def R_law : String := "FewRectanglesLaw"
def lw_P (b : Addr) (xs : List Int32) (args : Array Value) (s : State) : Prop := args = #[.ref b] ∧ s.IntsAt b xs ∧ xs.length ≤ 3072 ∧ (Jvm.Cond.and given_1 narrow_1).before args s = true
def lw_Q (_ : Array Value) (s : State) (o : Outcome) (t : State) : Prop := o = .returned (some (.int 1)) ∧ Framed s o t [] 600000 7302250
def lw_Z (below : List Frame) (a : Array Value) (s : State) : State → Prop := fun t => ∃ o, t.status = .running ∧ Ended t below o ∧ lw_Q a s o t
/-- the law's own end, with 1 on the stack, nothing written that was there before, its room as the claim has it -/
theorem lw_ret {p : Program} {l : Launch} {e : Env} {s : State} {m : MethodId} {below : List Frame} {meth : Method} {c : Code} {b : Nat} (hx : p.tables.exec = Jvm.exec) (hb : c.code = code) (hr : meth.sig.returnType = ret) (hlocks : meth.locks = false) {pc : Nat} {H : Heap} {ls : Array Slot} (hdg : decode code pc = .ok (.ireturn, 1)) : W p l e room_1 s m #[Value.ref b] below meth c H [] 600000 7302250 (lw_Z below #[Value.ref b] s) (F0 m pc ls [.int 1]) := by
  intro T hT X
  obtain ⟨fs, hret, hrun, hended, hW, hframe⟩ := X.leave (v := some (.int 1)) (hlocks := hlocks) (fun h => by rw [hr] at h; cases h)
  have hmeth' : T.vm.method? m = some meth := X.method'
  refine ⟨T.setFrames fs, ?_, .returned (some (.int 1)), hrun, hended, rfl, ⟨_, rfl⟩, hW, hframe⟩
  jvm_step X.here [X.here.top, hx, hb, hdg, hmeth', hr, ret, narrow_b1]
  (try refine ⟨rfl, ?_⟩); (try refine ⟨rfl, ?_⟩)
  first | (intro acts; rw [hret _ acts rfl rfl rfl]) | rw [hret _ _ rfl rfl rfl]
  exact Steps.refl _
/-- what holds at the law's entry: the machine, the code, the tables' words (any of lw_tbl by 'hts w (by decide +kernel)'), the script of L ints xs at the cell b, what the Statement gives of the start (any of its parts by flat_of_before) -/
def lw_At (p : Program) (s : State) (m : MethodId) (meth : Method) (c : Code) (b L : Nat) (xs : Nat → Int32) : Prop :=
  p.tables.exec = Jvm.exec ∧ c.code = code ∧ meth.sig.returnType = ret ∧ c.maxLocals = 4 ∧ s.vm.findClass R_law = some m.cls ∧ (∀ w ∈ lw_tbl, w.before #[Value.ref b] s = true) ∧ va_X b L xs s s.heap ∧ b < s.heap.size ∧ meth.locks = false ∧ (Jvm.Cond.and given_1 narrow_1).before #[Value.ref b] s = true
section MM
variable {D : va_G} {tys : List (ClassId × FieldType)} {old : Int → Nat}
set_option maxHeartbeats 4000000 in
theorem whole_open (PU : mm_PURE) {p : Program} {e : Env} {s : State} {m : MethodId} {below : List Frame} {meth : Method} {c : Code} (l : Launch) {b L : Nat} {xs : Nat → Int32} (hL : L ≤ 3072) (C0 : lw_At p s m meth c b L xs) : W p l e room_1 s m #[Value.ref b] below meth c s.heap [] 0 0 (lw_Z below #[Value.ref b] s) (entryFrame m ([Value.ref b] : List Value).toArray 4) := by
  obtain ⟨hx, hb, hr, hml, hown, hts, hX, hbl, hlocks, hgv⟩ := C0
  obtain ⟨D, tys, old, hE, ho⟩ := mm_env hts hgv hX hbl
  obtain ⟨w', h', H, hc, hsl⟩ := PU L xs hL
  have hO1 : ∀ x as w h r, mm_P 800 x as w h = some r → mm_le w r.2.1 := fun x as w h r H => (mm_all (D := D) (tys := tys) (B := s.heap.size) (old := old) (L0 := L) (scr := xs) (l := l) 800 x as w h r H).1
  have hle : mm_le (mm_w0 L) w' := mm_run_le hO1 H
  obtain ⟨hn, H⟩ := mm_run_go H
  have F : mm_Fr D tys s.heap.size old L xs p s m #[Value.ref b] meth c 4 "FewRectanglesLaw" code meth.name ret := ⟨hx, hb, hml, hown, fun w hw => hts w (List.mem_filter.mp hw).1, hE, rfl, hr, hlocks⟩
  have hst : mm_SR old [] [((2 : Nat), (-1 : Int))] [Value.ref b] := by
    refine ⟨⟨?_, ?_⟩, trivial⟩
    all_goals first | decide | skip
    show Value.ref b = va_rf (mm_adr old [] (-1))
    unfold mm_adr
    rw [if_pos (by decide), ho]
    rfl
  have hQ : mm_HQ D tys s.heap.size old L xs p l e room_1 s m #[Value.ref b] below meth c 4 [] (mm_w0 L) (lw_Z below #[Value.ref b] s) ((0, 1), w', h') code ret := by
    intro pc L2 v w2 h2 hr2 hk ρ2 H2 locs ls sv hρ hH hS hL2 hst2
    obtain ⟨x, sv, rfl, hx2, hst3⟩ := mm_SR_cons hst2
    have hst3 := mm_SR_nil hst3
    subst hst3
    cases hr2
    rcases hk with ⟨hdg, hv0, hk⟩ | ⟨hdg, hv0, hk⟩ | ⟨hdg, hv0, hk⟩
    · obtain ⟨hz, rfl⟩ := hx2
      have e0 : (w'.2.1 - (mm_w0 L).2.1).toNat ≤ 600000 := by show (w'.2.1 - 1).toNat ≤ 600000; omega
      have e1 : (w'.2.2 - (mm_w0 L).2.2).toNat ≤ 7302250 := by show (w'.2.2 - 0).toNat ≤ 7302250; omega
      have K := lw_ret (p := p) (l := l) (e := e) (s := s) (m := m) (below := below) (meth := meth) (c := c) (b := b) hx hb hr hlocks (H := H2) (ls := ls) hdg
      exact va_forget (fun q hq => hS.2.2 q hq) (W.widen e0 e1 K)
    · exact absurd hv0 (by decide)
    · exact absurd hv0 (by decide)
  have hQ0 : ∀ (pc : Nat) (L2 : List mm_V) (w2 : mm_W) (h2 : mm_H), ((((0 : Nat), (1 : Int)), w', h') : mm_R) = ((9, 0), w2, h2) → decode code pc = .ok (.return_, 1) → mm_rt ret 6 = true → mm_Wc D tys s.heap.size old L xs p l e room_1 s m #[Value.ref b] below meth c 4 [] (mm_w0 L) (lw_Z below #[Value.ref b] s) pc L2 [] w2 h2 := by
    intro pc L2 w2 h2 h3
    cases h3
  have hRm : mm_Rm room_1 [] (mm_w0 L) w' := ⟨by show (w'.2.1 - 1).toNat ≤ room_1.cells; have : room_1.cells = 600000 := rfl; omega, by show (w'.2.2 - 0).toNat ≤ room_1.slots; have : room_1.slots = 7302250 := rfl; omega⟩
  have hR : 1 ≤ room_1.frames ∧ 24 + 13 ≤ room_1.locals ∧ nativeFrameWords "java/lang/System" "arraycopy" 5 + 11 ≤ room_1.locals := ⟨by decide +kernel, by decide +kernel, by decide +kernel⟩
  have hO : ∀ x as w h r, mm_P 800 x as w h = some r → mm_OK D tys s.heap.size old L xs l room_1 x as w h r := by
    intro x as w h r H
    obtain ⟨a1, a2, a3, a4⟩ := mm_all (D := D) (tys := tys) (B := s.heap.size) (old := old) (L0 := L) (scr := xs) (l := l) 800 x as w h r H
    have f1 : 900 ≤ room_1.frames := by decide +kernel
    have f2 : 80000 ≤ room_1.locals := by decide +kernel
    exact ⟨a1, a2, 800, by omega, by omega, a4⟩
  have hlp := mm_slp F mm_kw mm_pk_Law (fun h => by cases h) hRm hR hO hQ hQ0 c_Law mm_chk_Law 6
  have g := mm_sg F mm_kw mm_pk_Law (fun h => by cases h) hRm hR hO hlp hQ hQ0 c_Law mm_chk_Law 0 _ [] (mm_w0 L) (mm_h0 xs) _ H
  have h0 : mm_nx c_Law = 0 := rfl
  rw [if_pos rfl, h0] at g
  have k := (g.2 rfl).2 [] s.heap [] _ [] ⟨⟨[], by simp⟩, Int.le_refl _, Int.le_refl _⟩ (mm_HR0 hL s.heap) va_S.rf (mm_LR_in hst hn) trivial
  rw [lg_entry_eq]
  have z1 : ((mm_w0 L).2.1 - (mm_w0 L).2.1).toNat = 0 := by omega
  have z2 : ((mm_w0 L).2.2 - (mm_w0 L).2.2).toNat = 0 := by omega
  rw [z1, z2] at k
  exact k
end MM
