/-! ===== the law: its loop, and each of its calls, as functions ===== -/
def K_Z_law : MC := [(18, .ret 0, 0), (18, .iload 3, 0), (19, .aload 0, 0), (20, .swap, 0), (21, .iconst 0, 6), (23, .isub, 0), (24, .if_icmp .gt 1207, 0), (27, .aload 0, 0), (28, .iload 3, 0), (29, .saload, 0), (30, .iconst 0, 63), (32, .iand, 0), (33, .lookupswitch 1205 #[(0, 13), (1, 31), (2, 59), (3, 107), (4, 145), (5, 201), (6, 219), (7, 277), (8, 295), (9, 313), (10, 331), (11, 369), (12, 417), (13, 465), (14, 493), (15, 521), (16, 569), (17, 597), (18, 635), (19, 673), (20, 691), (21, 709), (22, 747), (23, 775), (24, 793), (25, 821), (26, 849), (27, 877), (28, 905), (29, 923), (30, 941), (31, 959), (32, 987), (33, 1005), (34, 1033), (35, 1071), (36, 1089), (37, 1107), (38, 1135), (39, 1153), (40, 1161), (41, 1187)], 0), (216, .ret 1, 0), (216, .aload 1, 0), (217, .aload 0, 0), (218, .iload 3, 0), (219, .lconst 1, 0), (220, .iadd, 0), (221, .saload, 0), (222, .invokeinterface 1 178, 0), (225, .aload 2, 0), (226, .aload 0, 0), (227, .iload 3, 0), (228, .lconst 1, 0), (229, .iadd, 0), (230, .saload, 0), (231, .invokeinterface 198 194, 0), (234, .if_icmp .eq 1205, 0), (237, .lconst 0, 0), (238, .lreturn, 0), (239, .ret 2, 0), (239, .aload 1, 0), (240, .aload 0, 0), (241, .iload 3, 0), (242, .lconst 1, 0), (243, .iadd, 0), (244, .saload, 0), (245, .aload 0, 0), (246, .iload 3, 0), (247, .iconst 0, 2), (248, .iadd, 0), (249, .saload, 0), (250, .invokeinterface 6 179, 0), (253, .aload 2, 0), (254, .aload 0, 0), (255, .iload 3, 0), (256, .lconst 1, 0), (257, .iadd, 0), (258, .saload, 0), (259, .aload 0, 0), (260, .iload 3, 0), (261, .iconst 0, 2), (262, .iadd, 0), (263, .saload, 0), (264, .invokeinterface 203 195, 0), (267, .if_icmp .eq 1205, 0), (270, .lconst 0, 0), (271, .lreturn, 0), (272, .ret 3, 0), (272, .aload 1, 0), (273, .aload 0, 0), (274, .iload 3, 0), (275, .lconst 1, 0), (276, .iadd, 0), (277, .saload, 0), (278, .aload 0, 0), (279, .iload 3, 0), (280, .iconst 0, 2), (281, .iadd, 0), (282, .saload, 0), (283, .aload 0, 0), (284, .iload 3, 0), (285, .iconst 0, 3), (286, .iadd, 0), (287, .saload, 0), (288, .aload 0, 0), (289, .iload 3, 0), (290, .iconst 0, 4), (291, .iadd, 0), (292, .saload, 0), (293, .invokeinterface 11 181, 0), (296, .aload 2, 0), (297, .aload 0, 0), (298, .iload 3, 0), (299, .lconst 1, 0), (300, .iadd, 0), (301, .saload, 0), (302, .aload 0, 0), (303, .iload 3, 0), (304, .iconst 0, 2), (305, .iadd, 0), (306, .saload, 0), (307, .aload 0, 0), (308, .iload 3, 0), (309, .iconst 0, 3), (310, .iadd, 0), (311, .saload, 0), (312, .aload 0, 0), (313, .iload 3, 0), (314, .iconst 0, 4), (315, .iadd, 0), (316, .saload, 0), (317, .invokeinterface 204 197, 0), (320, .if_icmp .eq 1205, 0), (323, .lconst 0, 0), (324, .lreturn, 0), (325, .ret 4, 0), (325, .aload 1, 0), (326, .aload 0, 0), (327, .iload 3, 0), (328, .lconst 1, 0), (329, .iadd, 0), (330, .saload, 0), (331, .aload 0, 0), (332, .iload 3, 0), (333, .iconst 0, 2), (334, .iadd, 0), (335, .saload, 0), (336, .aload 0, 0), (337, .iload 3, 0), (338, .iconst 0, 3), (339, .iadd, 0), (340, .saload, 0), (341, .invokeinterface 19 180, 0), (344, .aload 2, 0), (345, .aload 0, 0), (346, .iload 3, 0), (347, .lconst 1, 0), (348, .iadd, 0), (349, .saload, 0), (350, .aload 0, 0), (351, .iload 3, 0), (352, .iconst 0, 2), (353, .iadd, 0), (354, .saload, 0), (355, .aload 0, 0), (356, .iload 3, 0), (357, .iconst 0, 3), (358, .iadd, 0), (359, .saload, 0), (360, .invokeinterface 254 196, 0), (363, .if_icmp .eq 1205, 0), (366, .lconst 0, 0), (367, .lreturn, 0), (368, .ret 5, 0), (368, .aload 1, 0), (369, .aload 0, 0), (370, .iload 3, 0), (371, .lconst 1, 0), (372, .iadd, 0), (373, .saload, 0), (374, .aload 0, 0), (375, .iload 3, 0), (376, .iconst 0, 2), (377, .iadd, 0), (378, .saload, 0), (379, .ifCond .eq 160, 0), (382, .lconst 1, 0), (383, .goto 161, 0), (386, .lconst 0, 0), (387, .aload 0, 0), (388, .iload 3, 0), (389, .iconst 0, 3), (390, .iadd, 0), (391, .saload, 0), (392, .aload 0, 0), (393, .iload 3, 0), (394, .iconst 0, 4), (395, .iadd, 0), (396, .saload, 0), (397, .invokeinterface 36 181, 0), (400, .aload 2, 0), (401, .aload 0, 0), (402, .iload 3, 0), (403, .lconst 1, 0), (404, .iadd, 0), (405, .saload, 0), (406, .aload 0, 0), (407, .iload 3, 0), (408, .iconst 0, 2), (409, .iadd, 0), (410, .saload, 0), (411, .ifCond .eq 186, 0), (414, .lconst 1, 0), (415, .goto 187, 0), (418, .lconst 0, 0), (419, .aload 0, 0), (420, .iload 3, 0), (421, .iconst 0, 3), (422, .iadd, 0), (423, .saload, 0), (424, .aload 0, 0), (425, .iload 3, 0), (426, .iconst 0, 4), (427, .iadd, 0), (428, .saload, 0), (429, .invokeinterface 257 197, 0), (432, .if_icmp .eq 1205, 0), (435, .lconst 0, 0), (436, .lreturn, 0), (437, .ret 6, 0), (437, .aload 1, 0), (438, .aload 0, 0), (439, .iload 3, 0), (440, .lconst 1, 0), (441, .iadd, 0), (442, .saload, 0), (443, .invokeinterface 40 178, 0), (446, .aload 2, 0), (447, .aload 0, 0), (448, .iload 3, 0), (449, .lconst 1, 0), (450, .iadd, 0), (451, .saload, 0), (452, .invokeinterface 260 194, 0), (455, .if_icmp .eq 1205, 0), (458, .lconst 0, 0), (459, .lreturn, 0), (460, .ret 7, 0), (460, .aload 1, 0), (461, .aload 0, 0), (462, .iload 3, 0), (463, .lconst 1, 0), (464, .iadd, 0), (465, .saload, 0), (466, .aload 0, 0), (467, .iload 3, 0), (468, .iconst 0, 2), (469, .iadd, 0), (470, .saload, 0), (471, .aload 0, 0), (472, .iload 3, 0), (473, .iconst 0, 3), (474, .iadd, 0), (475, .saload, 0), (476, .aload 0, 0), (477, .iload 3, 0), (478, .iconst 0, 4), (479, .iadd, 0), (480, .saload, 0), (481, .aload 0, 0), (482, .iload 3, 0), (483, .iconst 0, 5), (484, .iadd, 0), (485, .saload, 0), (486, .invokeinterface 42 182, 0), (489, .aload 2, 0), (490, .aload 0, 0), (491, .iload 3, 0), (492, .lconst 1, 0), (493, .iadd, 0), (494, .saload, 0), (495, .aload 0, 0), (496, .iload 3, 0), (497, .iconst 0, 2), (498, .iadd, 0), (499, .saload, 0), (500, .aload 0, 0), (501, .iload 3, 0), (502, .iconst 0, 3), (503, .iadd, 0), (504, .saload, 0), (505, .aload 0, 0), (506, .iload 3, 0), (507, .iconst 0, 4), (508, .iadd, 0), (509, .saload, 0), (510, .aload 0, 0), (511, .iload 3, 0), (512, .iconst 0, 5), (513, .iadd, 0), (514, .saload, 0), (515, .invokeinterface 206 198, 0), (518, .if_icmp .eq 1205, 0), (521, .lconst 0, 0), (522, .lreturn, 0), (523, .ret 8, 0), (523, .aload 1, 0), (524, .aload 0, 0), (525, .iload 3, 0), (526, .lconst 1, 0), (527, .iadd, 0), (528, .saload, 0), (529, .invokeinterface 43 178, 0), (532, .aload 2, 0), (533, .aload 0, 0), (534, .iload 3, 0), (535, .lconst 1, 0), (536, .iadd, 0), (537, .saload, 0), (538, .invokeinterface 207 194, 0), (541, .if_icmp .eq 1205, 0), (544, .lconst 0, 0), (545, .lreturn, 0), (546, .ret 9, 0), (546, .aload 1, 0), (547, .aload 0, 0), (548, .iload 3, 0), (549, .lconst 1, 0), (550, .iadd, 0), (551, .saload, 0), (552, .invokeinterface 83 178, 0), (555, .aload 2, 0), (556, .aload 0, 0), (557, .iload 3, 0), (558, .lconst 1, 0), (559, .iadd, 0), (560, .saload, 0), (561, .invokeinterface 242 194, 0), (564, .if_icmp .eq 1205, 0), (567, .lconst 0, 0), (568, .lreturn, 0), (569, .ret 10, 0), (569, .aload 1, 0), (570, .aload 0, 0), (571, .iload 3, 0), (572, .lconst 1, 0), (573, .iadd, 0), (574, .saload, 0), (575, .invokeinterface 84 178, 0), (578, .aload 2, 0), (579, .aload 0, 0), (580, .iload 3, 0), (581, .lconst 1, 0), (582, .iadd, 0), (583, .saload, 0), (584, .invokeinterface 243 194, 0), (587, .if_icmp .eq 1205, 0), (590, .lconst 0, 0), (591, .lreturn, 0), (592, .ret 11, 0), (592, .aload 1, 0), (593, .aload 0, 0), (594, .iload 3, 0), (595, .lconst 1, 0), (596, .iadd, 0), (597, .saload, 0), (598, .aload 0, 0), (599, .iload 3, 0), (600, .iconst 0, 2), (601, .iadd, 0), (602, .saload, 0), (603, .aload 0, 0), (604, .iload 3, 0), (605, .iconst 0, 3), (606, .iadd, 0), (607, .saload, 0), (608, .invokeinterface 86 180, 0), (611, .aload 2, 0), (612, .aload 0, 0), (613, .iload 3, 0), (614, .lconst 1, 0), (615, .iadd, 0), (616, .saload, 0), (617, .aload 0, 0), (618, .iload 3, 0), (619, .iconst 0, 2), (620, .iadd, 0), (621, .saload, 0), (622, .aload 0, 0), (623, .iload 3, 0), (624, .iconst 0, 3), (625, .iadd, 0), (626, .saload, 0), (627, .invokeinterface 262 196, 0), (630, .if_icmp .eq 1205, 0), (633, .lconst 0, 0), (634, .lreturn, 0), (635, .ret 12, 0), (635, .aload 1, 0), (636, .aload 0, 0), (637, .iload 3, 0), (638, .lconst 1, 0), (639, .iadd, 0), (640, .saload, 0), (641, .aload 0, 0), (642, .iload 3, 0), (643, .iconst 0, 2), (644, .iadd, 0), (645, .saload, 0), (646, .aload 0, 0), (647, .iload 3, 0), (648, .iconst 0, 3), (649, .iadd, 0), (650, .saload, 0), (651, .aload 0, 0), (652, .iload 3, 0), (653, .iconst 0, 4), (654, .iadd, 0), (655, .saload, 0), (656, .invokeinterface 88 181, 0), (659, .aload 2, 0), (660, .aload 0, 0), (661, .iload 3, 0), (662, .lconst 1, 0), (663, .iadd, 0), (664, .saload, 0), (665, .aload 0, 0), (666, .iload 3, 0), (667, .iconst 0, 2), (668, .iadd, 0), (669, .saload, 0), (670, .aload 0, 0), (671, .iload 3, 0), (672, .iconst 0, 3), (673, .iadd, 0), (674, .saload, 0), (675, .aload 0, 0), (676, .iload 3, 0), (677, .iconst 0, 4), (678, .iadd, 0), (679, .saload, 0), (680, .invokeinterface 264 197, 0), (683, .if_icmp .eq 1205, 0), (686, .lconst 0, 0), (687, .lreturn, 0), (688, .ret 13, 0), (688, .aload 1, 0), (689, .aload 0, 0), (690, .iload 3, 0), (691, .lconst 1, 0), (692, .iadd, 0), (693, .saload, 0), (694, .aload 0, 0), (695, .iload 3, 0), (696, .iconst 0, 2), (697, .iadd, 0), (698, .saload, 0), (699, .aload 0, 0), (700, .iload 3, 0), (701, .iconst 0, 3), (702, .iadd, 0), (703, .saload, 0), (704, .aload 0, 0), (705, .iload 3, 0), (706, .iconst 0, 4), (707, .iadd, 0), (708, .saload, 0), (709, .invokeinterface 89 181, 0), (712, .aload 2, 0), (713, .aload 0, 0), (714, .iload 3, 0), (715, .lconst 1, 0), (716, .iadd, 0), (717, .saload, 0), (718, .aload 0, 0), (719, .iload 3, 0), (720, .iconst 0, 2), (721, .iadd, 0), (722, .saload, 0), (723, .aload 0, 0), (724, .iload 3, 0), (725, .iconst 0, 3), (726, .iadd, 0), (727, .saload, 0), (728, .aload 0, 0), (729, .iload 3, 0), (730, .iconst 0, 4), (731, .iadd, 0), (732, .saload, 0), (733, .invokeinterface 265 197, 0), (736, .if_icmp .eq 1205, 0), (739, .lconst 0, 0), (740, .lreturn, 0), (741, .ret 14, 0), (741, .aload 1, 0), (742, .aload 0, 0), (743, .iload 3, 0), (744, .lconst 1, 0), (745, .iadd, 0), (746, .saload, 0), (747, .aload 0, 0), (748, .iload 3, 0), (749, .iconst 0, 2), (750, .iadd, 0), (751, .saload, 0), (752, .invokeinterface 91 179, 0), (755, .aload 2, 0), (756, .aload 0, 0), (757, .iload 3, 0), (758, .lconst 1, 0), (759, .iadd, 0), (760, .saload, 0), (761, .aload 0, 0), (762, .iload 3, 0), (763, .iconst 0, 2), (764, .iadd, 0), (765, .saload, 0), (766, .invokeinterface 266 195, 0), (769, .if_icmp .eq 1205, 0), (772, .lconst 0, 0), (773, .lreturn, 0), (774, .ret 15, 0), (774, .aload 1, 0), (775, .aload 0, 0), (776, .iload 3, 0), (777, .lconst 1, 0), (778, .iadd, 0), (779, .saload, 0), (780, .aload 0, 0), (781, .iload 3, 0), (782, .iconst 0, 2), (783, .iadd, 0), (784, .saload, 0), (785, .invokeinterface 96 179, 0), (788, .aload 2, 0), (789, .aload 0, 0), (790, .iload 3, 0), (791, .lconst 1, 0), (792, .iadd, 0), (793, .saload, 0), (794, .aload 0, 0), (795, .iload 3, 0), (796, .iconst 0, 2), (797, .iadd, 0), (798, .saload, 0), (799, .invokeinterface 269 195, 0), (802, .if_icmp .eq 1205, 0), (805, .lconst 0, 0), (806, .lreturn, 0), (807, .ret 16, 0), (807, .aload 1, 0), (808, .aload 0, 0), (809, .iload 3, 0), (810, .lconst 1, 0), (811, .iadd, 0), (812, .saload, 0), (813, .aload 0, 0), (814, .iload 3, 0), (815, .iconst 0, 2), (816, .iadd, 0), (817, .saload, 0), (818, .aload 0, 0), (819, .iload 3, 0), (820, .iconst 0, 3), (821, .iadd, 0), (822, .saload, 0), (823, .aload 0, 0), (824, .iload 3, 0), (825, .iconst 0, 4), (826, .iadd, 0), (827, .saload, 0), (828, .invokeinterface 100 181, 0), (831, .aload 2, 0), (832, .aload 0, 0), (833, .iload 3, 0), (834, .lconst 1, 0), (835, .iadd, 0), (836, .saload, 0), (837, .aload 0, 0), (838, .iload 3, 0), (839, .iconst 0, 2), (840, .iadd, 0), (841, .saload, 0), (842, .aload 0, 0), (843, .iload 3, 0), (844, .iconst 0, 3), (845, .iadd, 0), (846, .saload, 0), (847, .aload 0, 0), (848, .iload 3, 0), (849, .iconst 0, 4), (850, .iadd, 0), (851, .saload, 0), (852, .invokeinterface 271 197, 0), (855, .if_icmp .eq 1205, 0), (858, .lconst 0, 0), (859, .lreturn, 0), (860, .ret 17, 0), (860, .aload 1, 0), (861, .aload 0, 0), (862, .iload 3, 0), (863, .lconst 1, 0), (864, .iadd, 0), (865, .saload, 0), (866, .aload 0, 0), (867, .iload 3, 0), (868, .iconst 0, 2), (869, .iadd, 0), (870, .saload, 0), (871, .invokeinterface 103 179, 0), (874, .aload 2, 0), (875, .aload 0, 0), (876, .iload 3, 0), (877, .lconst 1, 0), (878, .iadd, 0), (879, .saload, 0), (880, .aload 0, 0), (881, .iload 3, 0), (882, .iconst 0, 2), (883, .iadd, 0), (884, .saload, 0), (885, .invokeinterface 272 195, 0), (888, .if_icmp .eq 1205, 0), (891, .lconst 0, 0), (892, .lreturn, 0), (893, .ret 18, 0), (893, .aload 1, 0), (894, .aload 0, 0), (895, .iload 3, 0), (896, .lconst 1, 0), (897, .iadd, 0), (898, .saload, 0), (899, .aload 0, 0), (900, .iload 3, 0), (901, .iconst 0, 2), (902, .iadd, 0), (903, .saload, 0), (904, .aload 0, 0), (905, .iload 3, 0), (906, .iconst 0, 3), (907, .iadd, 0), (908, .saload, 0), (909, .invokeinterface 109 180, 0), (912, .aload 2, 0), (913, .aload 0, 0), (914, .iload 3, 0), (915, .lconst 1, 0), (916, .iadd, 0), (917, .saload, 0), (918, .aload 0, 0), (919, .iload 3, 0), (920, .iconst 0, 2), (921, .iadd, 0), (922, .saload, 0), (923, .aload 0, 0), (924, .iload 3, 0), (925, .iconst 0, 3), (926, .iadd, 0), (927, .saload, 0), (928, .invokeinterface 276 196, 0), (931, .if_icmp .eq 1205, 0), (934, .lconst 0, 0), (935, .lreturn, 0), (936, .ret 19, 0), (936, .aload 1, 0), (937, .aload 0, 0), (938, .iload 3, 0), (939, .lconst 1, 0), (940, .iadd, 0), (941, .saload, 0), (942, .aload 0, 0), (943, .iload 3, 0), (944, .iconst 0, 2), (945, .iadd, 0), (946, .saload, 0), (947, .aload 0, 0), (948, .iload 3, 0), (949, .iconst 0, 3), (950, .iadd, 0), (951, .saload, 0), (952, .invokeinterface 114 180, 0), (955, .aload 2, 0), (956, .aload 0, 0), (957, .iload 3, 0), (958, .lconst 1, 0), (959, .iadd, 0), (960, .saload, 0), (961, .aload 0, 0), (962, .iload 3, 0), (963, .iconst 0, 2), (964, .iadd, 0), (965, .saload, 0), (966, .aload 0, 0), (967, .iload 3, 0), (968, .iconst 0, 3), (969, .iadd, 0), (970, .saload, 0), (971, .invokeinterface 279 196, 0), (974, .if_icmp .eq 1205, 0), (977, .lconst 0, 0), (978, .lreturn, 0), (979, .ret 20, 0), (979, .aload 1, 0), (980, .aload 0, 0), (981, .iload 3, 0), (982, .lconst 1, 0), (983, .iadd, 0), (984, .saload, 0), (985, .invokeinterface 129 178, 0), (988, .aload 2, 0), (989, .aload 0, 0), (990, .iload 3, 0), (991, .lconst 1, 0), (992, .iadd, 0), (993, .saload, 0), (994, .invokeinterface 280 194, 0), (997, .if_icmp .eq 1205, 0), (1000, .lconst 0, 0), (1001, .lreturn, 0), (1002, .ret 21, 0), (1002, .aload 1, 0), (1003, .aload 0, 0), (1004, .iload 3, 0), (1005, .lconst 1, 0), (1006, .iadd, 0), (1007, .saload, 0), (1008, .invokeinterface 136 178, 0), (1011, .aload 2, 0), (1012, .aload 0, 0), (1013, .iload 3, 0), (1014, .lconst 1, 0), (1015, .iadd, 0), (1016, .saload, 0), (1017, .invokeinterface 284 194, 0), (1020, .if_icmp .eq 1205, 0), (1023, .lconst 0, 0), (1024, .lreturn, 0), (1025, .ret 22, 0), (1025, .aload 1, 0), (1026, .aload 0, 0), (1027, .iload 3, 0), (1028, .lconst 1, 0), (1029, .iadd, 0), (1030, .saload, 0), (1031, .aload 0, 0), (1032, .iload 3, 0), (1033, .iconst 0, 2), (1034, .iadd, 0), (1035, .saload, 0), (1036, .aload 0, 0), (1037, .iload 3, 0), (1038, .iconst 0, 3), (1039, .iadd, 0), (1040, .saload, 0), (1041, .invokeinterface 118 180, 0), (1044, .aload 2, 0), (1045, .aload 0, 0), (1046, .iload 3, 0), (1047, .lconst 1, 0), (1048, .iadd, 0), (1049, .saload, 0), (1050, .aload 0, 0), (1051, .iload 3, 0), (1052, .iconst 0, 2), (1053, .iadd, 0), (1054, .saload, 0), (1055, .aload 0, 0), (1056, .iload 3, 0), (1057, .iconst 0, 3), (1058, .iadd, 0), (1059, .saload, 0), (1060, .invokeinterface 287 196, 0), (1063, .if_icmp .eq 1205, 0), (1066, .lconst 0, 0), (1067, .lreturn, 0), (1068, .ret 23, 0), (1068, .aload 1, 0), (1069, .aload 0, 0), (1070, .iload 3, 0), (1071, .lconst 1, 0), (1072, .iadd, 0), (1073, .saload, 0), (1074, .aload 0, 0), (1075, .iload 3, 0), (1076, .iconst 0, 2), (1077, .iadd, 0), (1078, .saload, 0), (1079, .invokeinterface 127 179, 0), (1082, .aload 2, 0), (1083, .aload 0, 0), (1084, .iload 3, 0), (1085, .lconst 1, 0), (1086, .iadd, 0), (1087, .saload, 0), (1088, .aload 0, 0), (1089, .iload 3, 0), (1090, .iconst 0, 2), (1091, .iadd, 0), (1092, .saload, 0), (1093, .invokeinterface 293 195, 0), (1096, .if_icmp .eq 1205, 0), (1099, .lconst 0, 0), (1100, .lreturn, 0), (1101, .ret 24, 0), (1101, .aload 1, 0), (1102, .aload 0, 0), (1103, .iload 3, 0), (1104, .lconst 1, 0), (1105, .iadd, 0), (1106, .saload, 0), (1107, .invokeinterface 137 178, 0), (1110, .aload 2, 0), (1111, .aload 0, 0), (1112, .iload 3, 0), (1113, .lconst 1, 0), (1114, .iadd, 0), (1115, .saload, 0), (1116, .invokeinterface 294 194, 0), (1119, .if_icmp .eq 1205, 0), (1122, .lconst 0, 0), (1123, .lreturn, 0), (1124, .ret 25, 0), (1124, .aload 1, 0), (1125, .aload 0, 0), (1126, .iload 3, 0), (1127, .lconst 1, 0), (1128, .iadd, 0), (1129, .saload, 0), (1130, .aload 0, 0), (1131, .iload 3, 0), (1132, .iconst 0, 2), (1133, .iadd, 0), (1134, .saload, 0), (1135, .invokeinterface 142 179, 0), (1138, .aload 2, 0), (1139, .aload 0, 0), (1140, .iload 3, 0), (1141, .lconst 1, 0), (1142, .iadd, 0), (1143, .saload, 0), (1144, .aload 0, 0), (1145, .iload 3, 0), (1146, .iconst 0, 2), (1147, .iadd, 0), (1148, .saload, 0), (1149, .invokeinterface 297 195, 0), (1152, .if_icmp .eq 1205, 0), (1155, .lconst 0, 0), (1156, .lreturn, 0), (1157, .ret 26, 0), (1157, .aload 1, 0), (1158, .aload 0, 0), (1159, .iload 3, 0), (1160, .lconst 1, 0), (1161, .iadd, 0), (1162, .saload, 0), (1163, .aload 0, 0), (1164, .iload 3, 0), (1165, .iconst 0, 2), (1166, .iadd, 0), (1167, .saload, 0), (1168, .invokeinterface 145 179, 0), (1171, .aload 2, 0), (1172, .aload 0, 0), (1173, .iload 3, 0), (1174, .lconst 1, 0), (1175, .iadd, 0), (1176, .saload, 0), (1177, .aload 0, 0), (1178, .iload 3, 0), (1179, .iconst 0, 2), (1180, .iadd, 0), (1181, .saload, 0), (1182, .invokeinterface 298 195, 0), (1185, .if_icmp .eq 1205, 0), (1188, .lconst 0, 0), (1189, .lreturn, 0), (1190, .ret 27, 0), (1190, .aload 1, 0), (1191, .aload 0, 0), (1192, .iload 3, 0), (1193, .lconst 1, 0), (1194, .iadd, 0), (1195, .saload, 0), (1196, .aload 0, 0), (1197, .iload 3, 0), (1198, .iconst 0, 2), (1199, .iadd, 0), (1200, .saload, 0), (1201, .invokeinterface 148 179, 0), (1204, .aload 2, 0), (1205, .aload 0, 0), (1206, .iload 3, 0), (1207, .lconst 1, 0), (1208, .iadd, 0), (1209, .saload, 0), (1210, .aload 0, 0), (1211, .iload 3, 0), (1212, .iconst 0, 2), (1213, .iadd, 0), (1214, .saload, 0), (1215, .invokeinterface 300 195, 0), (1218, .if_icmp .eq 1205, 0), (1221, .lconst 0, 0), (1222, .lreturn, 0), (1223, .ret 28, 0), (1223, .aload 1, 0), (1224, .aload 0, 0), (1225, .iload 3, 0), (1226, .lconst 1, 0), (1227, .iadd, 0), (1228, .saload, 0), (1229, .aload 0, 0), (1230, .iload 3, 0), (1231, .iconst 0, 2), (1232, .iadd, 0), (1233, .saload, 0), (1234, .invokeinterface 150 179, 0), (1237, .aload 2, 0), (1238, .aload 0, 0), (1239, .iload 3, 0), (1240, .lconst 1, 0), (1241, .iadd, 0), (1242, .saload, 0), (1243, .aload 0, 0), (1244, .iload 3, 0), (1245, .iconst 0, 2), (1246, .iadd, 0), (1247, .saload, 0), (1248, .invokeinterface 301 195, 0), (1251, .if_icmp .eq 1205, 0), (1254, .lconst 0, 0), (1255, .lreturn, 0), (1256, .ret 29, 0), (1256, .aload 1, 0), (1257, .aload 0, 0), (1258, .iload 3, 0), (1259, .lconst 1, 0), (1260, .iadd, 0), (1261, .saload, 0), (1262, .invokeinterface 152 178, 0), (1265, .aload 2, 0), (1266, .aload 0, 0), (1267, .iload 3, 0), (1268, .lconst 1, 0), (1269, .iadd, 0), (1270, .saload, 0), (1271, .invokeinterface 302 194, 0), (1274, .if_icmp .eq 1205, 0), (1277, .lconst 0, 0), (1278, .lreturn, 0), (1279, .ret 30, 0), (1279, .aload 1, 0), (1280, .aload 0, 0), (1281, .iload 3, 0), (1282, .lconst 1, 0), (1283, .iadd, 0), (1284, .saload, 0), (1285, .invokeinterface 156 178, 0), (1288, .aload 2, 0), (1289, .aload 0, 0), (1290, .iload 3, 0), (1291, .lconst 1, 0), (1292, .iadd, 0), (1293, .saload, 0), (1294, .invokeinterface 303 194, 0), (1297, .if_icmp .eq 1205, 0), (1300, .lconst 0, 0), (1301, .lreturn, 0), (1302, .ret 31, 0), (1302, .aload 1, 0), (1303, .aload 0, 0), (1304, .iload 3, 0), (1305, .lconst 1, 0), (1306, .iadd, 0), (1307, .saload, 0), (1308, .invokeinterface 157 178, 0), (1311, .aload 2, 0), (1312, .aload 0, 0), (1313, .iload 3, 0), (1314, .lconst 1, 0), (1315, .iadd, 0), (1316, .saload, 0), (1317, .invokeinterface 304 194, 0), (1320, .if_icmp .eq 1205, 0), (1323, .lconst 0, 0), (1324, .lreturn, 0), (1325, .ret 32, 0), (1325, .aload 1, 0), (1326, .aload 0, 0), (1327, .iload 3, 0), (1328, .lconst 1, 0), (1329, .iadd, 0), (1330, .saload, 0), (1331, .aload 0, 0), (1332, .iload 3, 0), (1333, .iconst 0, 2), (1334, .iadd, 0), (1335, .saload, 0), (1336, .invokeinterface 162 179, 0), (1339, .aload 2, 0), (1340, .aload 0, 0), (1341, .iload 3, 0), (1342, .lconst 1, 0), (1343, .iadd, 0), (1344, .saload, 0), (1345, .aload 0, 0), (1346, .iload 3, 0), (1347, .iconst 0, 2), (1348, .iadd, 0), (1349, .saload, 0), (1350, .invokeinterface 307 195, 0), (1353, .if_icmp .eq 1205, 0), (1356, .lconst 0, 0), (1357, .lreturn, 0), (1358, .ret 33, 0), (1358, .aload 1, 0), (1359, .aload 0, 0), (1360, .iload 3, 0), (1361, .lconst 1, 0), (1362, .iadd, 0), (1363, .saload, 0), (1364, .invokeinterface 163 178, 0), (1367, .aload 2, 0), (1368, .aload 0, 0), (1369, .iload 3, 0), (1370, .lconst 1, 0), (1371, .iadd, 0), (1372, .saload, 0), (1373, .invokeinterface 308 194, 0), (1376, .if_icmp .eq 1205, 0), (1379, .lconst 0, 0), (1380, .lreturn, 0), (1381, .ret 34, 0), (1381, .aload 1, 0), (1382, .aload 0, 0), (1383, .iload 3, 0), (1384, .lconst 1, 0), (1385, .iadd, 0), (1386, .saload, 0), (1387, .aload 0, 0), (1388, .iload 3, 0), (1389, .iconst 0, 2), (1390, .iadd, 0), (1391, .saload, 0), (1392, .invokeinterface 165 179, 0), (1395, .aload 2, 0), (1396, .aload 0, 0), (1397, .iload 3, 0), (1398, .lconst 1, 0), (1399, .iadd, 0), (1400, .saload, 0), (1401, .aload 0, 0), (1402, .iload 3, 0), (1403, .iconst 0, 2), (1404, .iadd, 0), (1405, .saload, 0), (1406, .invokeinterface 309 195, 0), (1409, .if_icmp .eq 1205, 0), (1412, .lconst 0, 0), (1413, .lreturn, 0), (1414, .ret 35, 0), (1414, .aload 1, 0), (1415, .aload 0, 0), (1416, .iload 3, 0), (1417, .lconst 1, 0), (1418, .iadd, 0), (1419, .saload, 0), (1420, .aload 0, 0), (1421, .iload 3, 0), (1422, .iconst 0, 2), (1423, .iadd, 0), (1424, .saload, 0), (1425, .aload 0, 0), (1426, .iload 3, 0), (1427, .iconst 0, 3), (1428, .iadd, 0), (1429, .saload, 0), (1430, .invokeinterface 168 180, 0), (1433, .aload 2, 0), (1434, .aload 0, 0), (1435, .iload 3, 0), (1436, .lconst 1, 0), (1437, .iadd, 0), (1438, .saload, 0), (1439, .aload 0, 0), (1440, .iload 3, 0), (1441, .iconst 0, 2), (1442, .iadd, 0), (1443, .saload, 0), (1444, .aload 0, 0), (1445, .iload 3, 0), (1446, .iconst 0, 3), (1447, .iadd, 0), (1448, .saload, 0), (1449, .invokeinterface 310 196, 0), (1452, .if_icmp .eq 1205, 0), (1455, .lconst 0, 0), (1456, .lreturn, 0), (1457, .ret 36, 0), (1457, .aload 1, 0), (1458, .aload 0, 0), (1459, .iload 3, 0), (1460, .lconst 1, 0), (1461, .iadd, 0), (1462, .saload, 0), (1463, .invokeinterface 169 178, 0), (1466, .aload 2, 0), (1467, .aload 0, 0), (1468, .iload 3, 0), (1469, .lconst 1, 0), (1470, .iadd, 0), (1471, .saload, 0), (1472, .invokeinterface 311 194, 0), (1475, .if_icmp .eq 1205, 0), (1478, .lconst 0, 0), (1479, .lreturn, 0), (1480, .ret 37, 0), (1480, .aload 1, 0), (1481, .aload 0, 0), (1482, .iload 3, 0), (1483, .lconst 1, 0), (1484, .iadd, 0), (1485, .saload, 0), (1486, .invokeinterface 177 178, 0), (1489, .aload 2, 0), (1490, .aload 0, 0), (1491, .iload 3, 0), (1492, .lconst 1, 0), (1493, .iadd, 0), (1494, .saload, 0), (1495, .invokeinterface 316 194, 0), (1498, .if_icmp .eq 1205, 0), (1501, .lconst 0, 0), (1502, .lreturn, 0), (1503, .ret 38, 0), (1503, .aload 1, 0), (1504, .aload 0, 0), (1505, .iload 3, 0), (1506, .lconst 1, 0), (1507, .iadd, 0), (1508, .saload, 0), (1509, .aload 0, 0), (1510, .iload 3, 0), (1511, .iconst 0, 2), (1512, .iadd, 0), (1513, .saload, 0), (1514, .invokeinterface 178 179, 0), (1517, .aload 2, 0), (1518, .aload 0, 0), (1519, .iload 3, 0), (1520, .lconst 1, 0), (1521, .iadd, 0), (1522, .saload, 0), (1523, .aload 0, 0), (1524, .iload 3, 0), (1525, .iconst 0, 2), (1526, .iadd, 0), (1527, .saload, 0), (1528, .invokeinterface 317 195, 0), (1531, .if_icmp .eq 1205, 0), (1534, .lconst 0, 0), (1535, .lreturn, 0), (1536, .ret 39, 0), (1536, .aload 1, 0), (1537, .aload 0, 0), (1538, .iload 3, 0), (1539, .lconst 1, 0), (1540, .iadd, 0), (1541, .saload, 0), (1542, .invokeinterface 180 178, 0), (1545, .aload 2, 0), (1546, .aload 0, 0), (1547, .iload 3, 0), (1548, .lconst 1, 0), (1549, .iadd, 0), (1550, .saload, 0), (1551, .invokeinterface 318 194, 0), (1554, .if_icmp .eq 1205, 0), (1557, .lconst 0, 0), (1558, .lreturn, 0), (1559, .ret 40, 0), (1559, .aload 1, 0), (1560, .invokeinterface 181 177, 0), (1563, .aload 2, 0), (1564, .invokeinterface 195 193, 0), (1567, .if_icmp .eq 1205, 0), (1570, .lconst 0, 0), (1571, .lreturn, 0), (1572, .ret 41, 0), (1572, .aload 1, 0), (1573, .aload 0, 0), (1574, .iload 3, 0), (1575, .lconst 1, 0), (1576, .iadd, 0), (1577, .saload, 0), (1578, .ifCond .eq 1171, 0), (1581, .lconst 1, 0), (1582, .goto 1172, 0), (1585, .lconst 0, 0), (1586, .invokeinterface 186 178, 0), (1589, .aload 2, 0), (1590, .aload 0, 0), (1591, .iload 3, 0), (1592, .lconst 1, 0), (1593, .iadd, 0), (1594, .saload, 0), (1595, .ifCond .eq 1182, 0), (1598, .lconst 1, 0), (1599, .goto 1183, 0), (1602, .lconst 0, 0), (1603, .invokeinterface 323 194, 0), (1606, .if_icmp .eq 1205, 0), (1609, .lconst 0, 0), (1610, .lreturn, 0), (1611, .ret 42, 0), (1611, .aload 1, 0), (1612, .aload 0, 0), (1613, .iload 3, 0), (1614, .lconst 1, 0), (1615, .iadd, 0), (1616, .saload, 0), (1617, .invokeinterface 92 178, 0), (1620, .aload 2, 0), (1621, .aload 0, 0), (1622, .iload 3, 0), (1623, .lconst 1, 0), (1624, .iadd, 0), (1625, .saload, 0), (1626, .invokeinterface 324 194, 0), (1629, .if_icmp .eq 1205, 0), (1632, .lconst 0, 0), (1633, .lreturn, 0), (1634, .iinc 3 0, 6), (1637, .goto 0, 0), (1640, .lconst 1, 0), (1641, .lreturn, 0)]
noncomputable def F_Z_law_22 (scL : Nat) (scX : Nat → Int32) (k10 : Int32 → Mem → Option (Int32 × Mem)): Nat → Int32 → Mem → Option (Int32 × Mem)
  | 0, _, _ => none
  | n + 1, x3, s =>
    if ¬ ((x3 + 1) < 0 ∨ scL ≤ ((x3 + 1)).toNatClampNeg) then
    (F_C_state (scX ((x3 + 1)).toNatClampNeg) s).bind fun z1 =>
    if ¬ ((x3 + 1) < 0 ∨ scL ≤ ((x3 + 1)).toNatClampNeg) then
    (F_R_state (scX ((x3 + 1)).toNatClampNeg) z1.2).bind fun z2 =>
    if z1.1 = z2.1 then
      k10 (x3 + 6) z2.2
    else
    some (0, z2.2)
    else none
    else none
noncomputable def F_Z_law_39 (scL : Nat) (scX : Nat → Int32) (k10 : Int32 → Mem → Option (Int32 × Mem)): Nat → Int32 → Mem → Option (Int32 × Mem)
  | 0, _, _ => none
  | n + 1, x3, s =>
    if ¬ ((x3 + 1) < 0 ∨ scL ≤ ((x3 + 1)).toNatClampNeg) then
    if ¬ ((x3 + 2) < 0 ∨ scL ≤ ((x3 + 2)).toNatClampNeg) then
    (F_C_flight (scX ((x3 + 1)).toNatClampNeg) (scX ((x3 + 2)).toNatClampNeg) s).bind fun z1 =>
    if ¬ ((x3 + 1) < 0 ∨ scL ≤ ((x3 + 1)).toNatClampNeg) then
    if ¬ ((x3 + 2) < 0 ∨ scL ≤ ((x3 + 2)).toNatClampNeg) then
    (F_R_flight (scX ((x3 + 1)).toNatClampNeg) (scX ((x3 + 2)).toNatClampNeg) z1.2).bind fun z2 =>
    if z1.1 = z2.1 then
      k10 (x3 + 6) z2.2
    else
    some (0, z2.2)
    else none
    else none
    else none
    else none
noncomputable def F_Z_law_66 (scL : Nat) (scX : Nat → Int32) (k10 : Int32 → Mem → Option (Int32 × Mem)): Nat → Int32 → Mem → Option (Int32 × Mem)
  | 0, _, _ => none
  | n + 1, x3, s =>
    if ¬ ((x3 + 1) < 0 ∨ scL ≤ ((x3 + 1)).toNatClampNeg) then
    if ¬ ((x3 + 2) < 0 ∨ scL ≤ ((x3 + 2)).toNatClampNeg) then
    if ¬ ((x3 + 3) < 0 ∨ scL ≤ ((x3 + 3)).toNatClampNeg) then
    if ¬ ((x3 + 4) < 0 ∨ scL ≤ ((x3 + 4)).toNatClampNeg) then
    (F_C_set (scX ((x3 + 1)).toNatClampNeg) (scX ((x3 + 2)).toNatClampNeg) (scX ((x3 + 3)).toNatClampNeg) (scX ((x3 + 4)).toNatClampNeg) s).bind fun z1 =>
    if ¬ ((x3 + 1) < 0 ∨ scL ≤ ((x3 + 1)).toNatClampNeg) then
    if ¬ ((x3 + 2) < 0 ∨ scL ≤ ((x3 + 2)).toNatClampNeg) then
    if ¬ ((x3 + 3) < 0 ∨ scL ≤ ((x3 + 3)).toNatClampNeg) then
    if ¬ ((x3 + 4) < 0 ∨ scL ≤ ((x3 + 4)).toNatClampNeg) then
    (F_R_set (scX ((x3 + 1)).toNatClampNeg) (scX ((x3 + 2)).toNatClampNeg) (scX ((x3 + 3)).toNatClampNeg) (scX ((x3 + 4)).toNatClampNeg) z1.2).bind fun z2 =>
    if z1.1 = z2.1 then
      k10 (x3 + 6) z2.2
    else
    some (0, z2.2)
    else none
    else none
    else none
    else none
    else none
    else none
    else none
    else none
noncomputable def F_Z_law_113 (scL : Nat) (scX : Nat → Int32) (k10 : Int32 → Mem → Option (Int32 × Mem)): Nat → Int32 → Mem → Option (Int32 × Mem)
  | 0, _, _ => none
  | n + 1, x3, s =>
    if ¬ ((x3 + 1) < 0 ∨ scL ≤ ((x3 + 1)).toNatClampNeg) then
    if ¬ ((x3 + 2) < 0 ∨ scL ≤ ((x3 + 2)).toNatClampNeg) then
    if ¬ ((x3 + 3) < 0 ∨ scL ≤ ((x3 + 3)).toNatClampNeg) then
    (F_C_order (scX ((x3 + 1)).toNatClampNeg) (scX ((x3 + 2)).toNatClampNeg) (scX ((x3 + 3)).toNatClampNeg) s).bind fun z1 =>
    if ¬ ((x3 + 1) < 0 ∨ scL ≤ ((x3 + 1)).toNatClampNeg) then
    if ¬ ((x3 + 2) < 0 ∨ scL ≤ ((x3 + 2)).toNatClampNeg) then
    if ¬ ((x3 + 3) < 0 ∨ scL ≤ ((x3 + 3)).toNatClampNeg) then
    (F_R_order (scX ((x3 + 1)).toNatClampNeg) (scX ((x3 + 2)).toNatClampNeg) (scX ((x3 + 3)).toNatClampNeg) z1.2).bind fun z2 =>
    if z1.1 = z2.1 then
      k10 (x3 + 6) z2.2
    else
    some (0, z2.2)
    else none
    else none
    else none
    else none
    else none
    else none
noncomputable def F_Z_law_150 (scL : Nat) (scX : Nat → Int32) (k10 : Int32 → Mem → Option (Int32 × Mem)): Nat → Int32 → Mem → Option (Int32 × Mem)
  | 0, _, _ => none
  | n + 1, x3, s =>
    if ¬ ((x3 + 1) < 0 ∨ scL ≤ ((x3 + 1)).toNatClampNeg) then
    if ¬ ((x3 + 2) < 0 ∨ scL ≤ ((x3 + 2)).toNatClampNeg) then
    if (scX ((x3 + 2)).toNatClampNeg) = 0 then
      if ¬ ((x3 + 3) < 0 ∨ scL ≤ ((x3 + 3)).toNatClampNeg) then
      if ¬ ((x3 + 4) < 0 ∨ scL ≤ ((x3 + 4)).toNatClampNeg) then
      (F_C_visit (scX ((x3 + 1)).toNatClampNeg) 0 (scX ((x3 + 3)).toNatClampNeg) (scX ((x3 + 4)).toNatClampNeg) s).bind fun z1 =>
      if ¬ ((x3 + 1) < 0 ∨ scL ≤ ((x3 + 1)).toNatClampNeg) then
      if ¬ ((x3 + 2) < 0 ∨ scL ≤ ((x3 + 2)).toNatClampNeg) then
      if (scX ((x3 + 2)).toNatClampNeg) = 0 then
        if ¬ ((x3 + 3) < 0 ∨ scL ≤ ((x3 + 3)).toNatClampNeg) then
        if ¬ ((x3 + 4) < 0 ∨ scL ≤ ((x3 + 4)).toNatClampNeg) then
        (F_R_visit (scX ((x3 + 1)).toNatClampNeg) 0 (scX ((x3 + 3)).toNatClampNeg) (scX ((x3 + 4)).toNatClampNeg) z1.2).bind fun z2 =>
        if z1.1 = z2.1 then
          k10 (x3 + 6) z2.2
        else
        some (0, z2.2)
        else none
        else none
      else
      if ¬ ((x3 + 3) < 0 ∨ scL ≤ ((x3 + 3)).toNatClampNeg) then
      if ¬ ((x3 + 4) < 0 ∨ scL ≤ ((x3 + 4)).toNatClampNeg) then
      (F_R_visit (scX ((x3 + 1)).toNatClampNeg) 1 (scX ((x3 + 3)).toNatClampNeg) (scX ((x3 + 4)).toNatClampNeg) z1.2).bind fun z3 =>
      if z1.1 = z3.1 then
        k10 (x3 + 6) z3.2
      else
      some (0, z3.2)
      else none
      else none
      else none
      else none
      else none
      else none
    else
    if ¬ ((x3 + 3) < 0 ∨ scL ≤ ((x3 + 3)).toNatClampNeg) then
    if ¬ ((x3 + 4) < 0 ∨ scL ≤ ((x3 + 4)).toNatClampNeg) then
    (F_C_visit (scX ((x3 + 1)).toNatClampNeg) 1 (scX ((x3 + 3)).toNatClampNeg) (scX ((x3 + 4)).toNatClampNeg) s).bind fun z4 =>
    if ¬ ((x3 + 1) < 0 ∨ scL ≤ ((x3 + 1)).toNatClampNeg) then
    if ¬ ((x3 + 2) < 0 ∨ scL ≤ ((x3 + 2)).toNatClampNeg) then
    if (scX ((x3 + 2)).toNatClampNeg) = 0 then
      if ¬ ((x3 + 3) < 0 ∨ scL ≤ ((x3 + 3)).toNatClampNeg) then
      if ¬ ((x3 + 4) < 0 ∨ scL ≤ ((x3 + 4)).toNatClampNeg) then
      (F_R_visit (scX ((x3 + 1)).toNatClampNeg) 0 (scX ((x3 + 3)).toNatClampNeg) (scX ((x3 + 4)).toNatClampNeg) z4.2).bind fun z5 =>
      if z4.1 = z5.1 then
        k10 (x3 + 6) z5.2
      else
      some (0, z5.2)
      else none
      else none
    else
    if ¬ ((x3 + 3) < 0 ∨ scL ≤ ((x3 + 3)).toNatClampNeg) then
    if ¬ ((x3 + 4) < 0 ∨ scL ≤ ((x3 + 4)).toNatClampNeg) then
    (F_R_visit (scX ((x3 + 1)).toNatClampNeg) 1 (scX ((x3 + 3)).toNatClampNeg) (scX ((x3 + 4)).toNatClampNeg) z4.2).bind fun z6 =>
    if z4.1 = z6.1 then
      k10 (x3 + 6) z6.2
    else
    some (0, z6.2)
    else none
    else none
    else none
    else none
    else none
    else none
    else none
    else none
noncomputable def F_Z_law_205 (scL : Nat) (scX : Nat → Int32) (k10 : Int32 → Mem → Option (Int32 × Mem)): Nat → Int32 → Mem → Option (Int32 × Mem)
  | 0, _, _ => none
  | n + 1, x3, s =>
    if ¬ ((x3 + 1) < 0 ∨ scL ≤ ((x3 + 1)).toNatClampNeg) then
    (F_C_nights (scX ((x3 + 1)).toNatClampNeg) s).bind fun z1 =>
    if ¬ ((x3 + 1) < 0 ∨ scL ≤ ((x3 + 1)).toNatClampNeg) then
    (F_R_nights (scX ((x3 + 1)).toNatClampNeg) z1.2).bind fun z2 =>
    if z1.1 = z2.1 then
      k10 (x3 + 6) z2.2
    else
    some (0, z2.2)
    else none
    else none
noncomputable def F_Z_law_222 (scL : Nat) (scX : Nat → Int32) (k10 : Int32 → Mem → Option (Int32 × Mem)): Nat → Int32 → Mem → Option (Int32 × Mem)
  | 0, _, _ => none
  | n + 1, x3, s =>
    if ¬ ((x3 + 1) < 0 ∨ scL ≤ ((x3 + 1)).toNatClampNeg) then
    if ¬ ((x3 + 2) < 0 ∨ scL ≤ ((x3 + 2)).toNatClampNeg) then
    if ¬ ((x3 + 3) < 0 ∨ scL ≤ ((x3 + 3)).toNatClampNeg) then
    if ¬ ((x3 + 4) < 0 ∨ scL ≤ ((x3 + 4)).toNatClampNeg) then
    if ¬ ((x3 + 5) < 0 ∨ scL ≤ ((x3 + 5)).toNatClampNeg) then
    (F_C_feed (scX ((x3 + 1)).toNatClampNeg) (scX ((x3 + 2)).toNatClampNeg) (scX ((x3 + 3)).toNatClampNeg) (scX ((x3 + 4)).toNatClampNeg) (scX ((x3 + 5)).toNatClampNeg) s).bind fun z1 =>
    if ¬ ((x3 + 1) < 0 ∨ scL ≤ ((x3 + 1)).toNatClampNeg) then
    if ¬ ((x3 + 2) < 0 ∨ scL ≤ ((x3 + 2)).toNatClampNeg) then
    if ¬ ((x3 + 3) < 0 ∨ scL ≤ ((x3 + 3)).toNatClampNeg) then
    if ¬ ((x3 + 4) < 0 ∨ scL ≤ ((x3 + 4)).toNatClampNeg) then
    if ¬ ((x3 + 5) < 0 ∨ scL ≤ ((x3 + 5)).toNatClampNeg) then
    (F_R_feed (scX ((x3 + 1)).toNatClampNeg) (scX ((x3 + 2)).toNatClampNeg) (scX ((x3 + 3)).toNatClampNeg) (scX ((x3 + 4)).toNatClampNeg) (scX ((x3 + 5)).toNatClampNeg) z1.2).bind fun z2 =>
    if z1.1 = z2.1 then
      k10 (x3 + 6) z2.2
    else
    some (0, z2.2)
    else none
    else none
    else none
    else none
    else none
    else none
    else none
    else none
    else none
    else none
noncomputable def F_Z_law_279 (scL : Nat) (scX : Nat → Int32) (k10 : Int32 → Mem → Option (Int32 × Mem)): Nat → Int32 → Mem → Option (Int32 × Mem)
  | 0, _, _ => none
  | n + 1, x3, s =>
    if ¬ ((x3 + 1) < 0 ∨ scL ≤ ((x3 + 1)).toNatClampNeg) then
    (F_C_end (scX ((x3 + 1)).toNatClampNeg) s).bind fun z1 =>
    if ¬ ((x3 + 1) < 0 ∨ scL ≤ ((x3 + 1)).toNatClampNeg) then
    (F_R_end (scX ((x3 + 1)).toNatClampNeg) z1.2).bind fun z2 =>
    if z1.1 = z2.1 then
      k10 (x3 + 6) z2.2
    else
    some (0, z2.2)
    else none
    else none
noncomputable def F_Z_law_296 (scL : Nat) (scX : Nat → Int32) (k10 : Int32 → Mem → Option (Int32 × Mem)): Nat → Int32 → Mem → Option (Int32 × Mem)
  | 0, _, _ => none
  | n + 1, x3, s =>
    if ¬ ((x3 + 1) < 0 ∨ scL ≤ ((x3 + 1)).toNatClampNeg) then
    (F_C_text (scX ((x3 + 1)).toNatClampNeg) s).bind fun z1 =>
    if ¬ ((x3 + 1) < 0 ∨ scL ≤ ((x3 + 1)).toNatClampNeg) then
    (F_R_text (scX ((x3 + 1)).toNatClampNeg) z1.2).bind fun z2 =>
    if z1.1 = z2.1 then
      k10 (x3 + 6) z2.2
    else
    some (0, z2.2)
    else none
    else none
noncomputable def F_Z_law_313 (scL : Nat) (scX : Nat → Int32) (k10 : Int32 → Mem → Option (Int32 × Mem)): Nat → Int32 → Mem → Option (Int32 × Mem)
  | 0, _, _ => none
  | n + 1, x3, s =>
    if ¬ ((x3 + 1) < 0 ∨ scL ≤ ((x3 + 1)).toNatClampNeg) then
    (F_C_fault (scX ((x3 + 1)).toNatClampNeg) s).bind fun z1 =>
    if ¬ ((x3 + 1) < 0 ∨ scL ≤ ((x3 + 1)).toNatClampNeg) then
    (F_R_fault (scX ((x3 + 1)).toNatClampNeg) z1.2).bind fun z2 =>
    if z1.1 = z2.1 then
      k10 (x3 + 6) z2.2
    else
    some (0, z2.2)
    else none
    else none
noncomputable def F_Z_law_330 (scL : Nat) (scX : Nat → Int32) (k10 : Int32 → Mem → Option (Int32 × Mem)): Nat → Int32 → Mem → Option (Int32 × Mem)
  | 0, _, _ => none
  | n + 1, x3, s =>
    if ¬ ((x3 + 1) < 0 ∨ scL ≤ ((x3 + 1)).toNatClampNeg) then
    if ¬ ((x3 + 2) < 0 ∨ scL ≤ ((x3 + 2)).toNatClampNeg) then
    if ¬ ((x3 + 3) < 0 ∨ scL ≤ ((x3 + 3)).toNatClampNeg) then
    (F_C_of (scX ((x3 + 1)).toNatClampNeg) (scX ((x3 + 2)).toNatClampNeg) (scX ((x3 + 3)).toNatClampNeg) s).bind fun z1 =>
    if ¬ ((x3 + 1) < 0 ∨ scL ≤ ((x3 + 1)).toNatClampNeg) then
    if ¬ ((x3 + 2) < 0 ∨ scL ≤ ((x3 + 2)).toNatClampNeg) then
    if ¬ ((x3 + 3) < 0 ∨ scL ≤ ((x3 + 3)).toNatClampNeg) then
    (F_R_of (scX ((x3 + 1)).toNatClampNeg) (scX ((x3 + 2)).toNatClampNeg) (scX ((x3 + 3)).toNatClampNeg) z1.2).bind fun z2 =>
    if z1.1 = z2.1 then
      k10 (x3 + 6) z2.2
    else
    some (0, z2.2)
    else none
    else none
    else none
    else none
    else none
    else none
noncomputable def F_Z_law_367 (scL : Nat) (scX : Nat → Int32) (k10 : Int32 → Mem → Option (Int32 × Mem)): Nat → Int32 → Mem → Option (Int32 × Mem)
  | 0, _, _ => none
  | n + 1, x3, s =>
    if ¬ ((x3 + 1) < 0 ∨ scL ≤ ((x3 + 1)).toNatClampNeg) then
    if ¬ ((x3 + 2) < 0 ∨ scL ≤ ((x3 + 2)).toNatClampNeg) then
    if ¬ ((x3 + 3) < 0 ∨ scL ≤ ((x3 + 3)).toNatClampNeg) then
    if ¬ ((x3 + 4) < 0 ∨ scL ≤ ((x3 + 4)).toNatClampNeg) then
    (F_C_creaks (scX ((x3 + 1)).toNatClampNeg) (scX ((x3 + 2)).toNatClampNeg) (scX ((x3 + 3)).toNatClampNeg) (scX ((x3 + 4)).toNatClampNeg) s).bind fun z1 =>
    if ¬ ((x3 + 1) < 0 ∨ scL ≤ ((x3 + 1)).toNatClampNeg) then
    if ¬ ((x3 + 2) < 0 ∨ scL ≤ ((x3 + 2)).toNatClampNeg) then
    if ¬ ((x3 + 3) < 0 ∨ scL ≤ ((x3 + 3)).toNatClampNeg) then
    if ¬ ((x3 + 4) < 0 ∨ scL ≤ ((x3 + 4)).toNatClampNeg) then
    (F_R_creaks (scX ((x3 + 1)).toNatClampNeg) (scX ((x3 + 2)).toNatClampNeg) (scX ((x3 + 3)).toNatClampNeg) (scX ((x3 + 4)).toNatClampNeg) z1.2).bind fun z2 =>
    if z1.1 = z2.1 then
      k10 (x3 + 6) z2.2
    else
    some (0, z2.2)
    else none
    else none
    else none
    else none
    else none
    else none
    else none
    else none
noncomputable def F_Z_law_414 (scL : Nat) (scX : Nat → Int32) (k10 : Int32 → Mem → Option (Int32 × Mem)): Nat → Int32 → Mem → Option (Int32 × Mem)
  | 0, _, _ => none
  | n + 1, x3, s =>
    if ¬ ((x3 + 1) < 0 ∨ scL ≤ ((x3 + 1)).toNatClampNeg) then
    if ¬ ((x3 + 2) < 0 ∨ scL ≤ ((x3 + 2)).toNatClampNeg) then
    if ¬ ((x3 + 3) < 0 ∨ scL ≤ ((x3 + 3)).toNatClampNeg) then
    if ¬ ((x3 + 4) < 0 ∨ scL ≤ ((x3 + 4)).toNatClampNeg) then
    (F_C_wears (scX ((x3 + 1)).toNatClampNeg) (scX ((x3 + 2)).toNatClampNeg) (scX ((x3 + 3)).toNatClampNeg) (scX ((x3 + 4)).toNatClampNeg) s).bind fun z1 =>
    if ¬ ((x3 + 1) < 0 ∨ scL ≤ ((x3 + 1)).toNatClampNeg) then
    if ¬ ((x3 + 2) < 0 ∨ scL ≤ ((x3 + 2)).toNatClampNeg) then
    if ¬ ((x3 + 3) < 0 ∨ scL ≤ ((x3 + 3)).toNatClampNeg) then
    if ¬ ((x3 + 4) < 0 ∨ scL ≤ ((x3 + 4)).toNatClampNeg) then
    (F_R_wears (scX ((x3 + 1)).toNatClampNeg) (scX ((x3 + 2)).toNatClampNeg) (scX ((x3 + 3)).toNatClampNeg) (scX ((x3 + 4)).toNatClampNeg) z1.2).bind fun z2 =>
    if z1.1 = z2.1 then
      k10 (x3 + 6) z2.2
    else
    some (0, z2.2)
    else none
    else none
    else none
    else none
    else none
    else none
    else none
    else none
noncomputable def F_Z_law_461 (scL : Nat) (scX : Nat → Int32) (k10 : Int32 → Mem → Option (Int32 × Mem)): Nat → Int32 → Mem → Option (Int32 × Mem)
  | 0, _, _ => none
  | n + 1, x3, s =>
    if ¬ ((x3 + 1) < 0 ∨ scL ≤ ((x3 + 1)).toNatClampNeg) then
    if ¬ ((x3 + 2) < 0 ∨ scL ≤ ((x3 + 2)).toNatClampNeg) then
    (F_C_book (scX ((x3 + 1)).toNatClampNeg) (scX ((x3 + 2)).toNatClampNeg) s).bind fun z1 =>
    if ¬ ((x3 + 1) < 0 ∨ scL ≤ ((x3 + 1)).toNatClampNeg) then
    if ¬ ((x3 + 2) < 0 ∨ scL ≤ ((x3 + 2)).toNatClampNeg) then
    (F_R_book (scX ((x3 + 1)).toNatClampNeg) (scX ((x3 + 2)).toNatClampNeg) z1.2).bind fun z2 =>
    if z1.1 = z2.1 then
      k10 (x3 + 6) z2.2
    else
    some (0, z2.2)
    else none
    else none
    else none
    else none
noncomputable def F_Z_law_488 (scL : Nat) (scX : Nat → Int32) (k10 : Int32 → Mem → Option (Int32 × Mem)): Nat → Int32 → Mem → Option (Int32 × Mem)
  | 0, _, _ => none
  | n + 1, x3, s =>
    if ¬ ((x3 + 1) < 0 ∨ scL ≤ ((x3 + 1)).toNatClampNeg) then
    if ¬ ((x3 + 2) < 0 ∨ scL ≤ ((x3 + 2)).toNatClampNeg) then
    (F_C_goes (scX ((x3 + 1)).toNatClampNeg) (scX ((x3 + 2)).toNatClampNeg) s).bind fun z1 =>
    if ¬ ((x3 + 1) < 0 ∨ scL ≤ ((x3 + 1)).toNatClampNeg) then
    if ¬ ((x3 + 2) < 0 ∨ scL ≤ ((x3 + 2)).toNatClampNeg) then
    (F_R_goes (scX ((x3 + 1)).toNatClampNeg) (scX ((x3 + 2)).toNatClampNeg) z1.2).bind fun z2 =>
    if z1.1 = z2.1 then
      k10 (x3 + 6) z2.2
    else
    some (0, z2.2)
    else none
    else none
    else none
    else none
noncomputable def F_Z_law_515 (scL : Nat) (scX : Nat → Int32) (k10 : Int32 → Mem → Option (Int32 × Mem)): Nat → Int32 → Mem → Option (Int32 × Mem)
  | 0, _, _ => none
  | n + 1, x3, s =>
    if ¬ ((x3 + 1) < 0 ∨ scL ≤ ((x3 + 1)).toNatClampNeg) then
    if ¬ ((x3 + 2) < 0 ∨ scL ≤ ((x3 + 2)).toNatClampNeg) then
    if ¬ ((x3 + 3) < 0 ∨ scL ≤ ((x3 + 3)).toNatClampNeg) then
    if ¬ ((x3 + 4) < 0 ∨ scL ≤ ((x3 + 4)).toNatClampNeg) then
    (F_C_unheard (scX ((x3 + 1)).toNatClampNeg) (scX ((x3 + 2)).toNatClampNeg) (scX ((x3 + 3)).toNatClampNeg) (scX ((x3 + 4)).toNatClampNeg) s).bind fun z1 =>
    if ¬ ((x3 + 1) < 0 ∨ scL ≤ ((x3 + 1)).toNatClampNeg) then
    if ¬ ((x3 + 2) < 0 ∨ scL ≤ ((x3 + 2)).toNatClampNeg) then
    if ¬ ((x3 + 3) < 0 ∨ scL ≤ ((x3 + 3)).toNatClampNeg) then
    if ¬ ((x3 + 4) < 0 ∨ scL ≤ ((x3 + 4)).toNatClampNeg) then
    (F_R_unheard (scX ((x3 + 1)).toNatClampNeg) (scX ((x3 + 2)).toNatClampNeg) (scX ((x3 + 3)).toNatClampNeg) (scX ((x3 + 4)).toNatClampNeg) z1.2).bind fun z2 =>
    if z1.1 = z2.1 then
      k10 (x3 + 6) z2.2
    else
    some (0, z2.2)
    else none
    else none
    else none
    else none
    else none
    else none
    else none
    else none
noncomputable def F_Z_law_562 (scL : Nat) (scX : Nat → Int32) (k10 : Int32 → Mem → Option (Int32 × Mem)): Nat → Int32 → Mem → Option (Int32 × Mem)
  | 0, _, _ => none
  | n + 1, x3, s =>
    if ¬ ((x3 + 1) < 0 ∨ scL ≤ ((x3 + 1)).toNatClampNeg) then
    if ¬ ((x3 + 2) < 0 ∨ scL ≤ ((x3 + 2)).toNatClampNeg) then
    (F_C_suspect (scX ((x3 + 1)).toNatClampNeg) (scX ((x3 + 2)).toNatClampNeg) s).bind fun z1 =>
    if ¬ ((x3 + 1) < 0 ∨ scL ≤ ((x3 + 1)).toNatClampNeg) then
    if ¬ ((x3 + 2) < 0 ∨ scL ≤ ((x3 + 2)).toNatClampNeg) then
    (F_R_suspect (scX ((x3 + 1)).toNatClampNeg) (scX ((x3 + 2)).toNatClampNeg) z1.2).bind fun z2 =>
    if z1.1 = z2.1 then
      k10 (x3 + 6) z2.2
    else
    some (0, z2.2)
    else none
    else none
    else none
    else none
noncomputable def F_Z_law_589 (scL : Nat) (scX : Nat → Int32) (k10 : Int32 → Mem → Option (Int32 × Mem)): Nat → Int32 → Mem → Option (Int32 × Mem)
  | 0, _, _ => none
  | n + 1, x3, s =>
    if ¬ ((x3 + 1) < 0 ∨ scL ≤ ((x3 + 1)).toNatClampNeg) then
    if ¬ ((x3 + 2) < 0 ∨ scL ≤ ((x3 + 2)).toNatClampNeg) then
    if ¬ ((x3 + 3) < 0 ∨ scL ≤ ((x3 + 3)).toNatClampNeg) then
    (F_C_who (scX ((x3 + 1)).toNatClampNeg) (scX ((x3 + 2)).toNatClampNeg) (scX ((x3 + 3)).toNatClampNeg) s).bind fun z1 =>
    if ¬ ((x3 + 1) < 0 ∨ scL ≤ ((x3 + 1)).toNatClampNeg) then
    if ¬ ((x3 + 2) < 0 ∨ scL ≤ ((x3 + 2)).toNatClampNeg) then
    if ¬ ((x3 + 3) < 0 ∨ scL ≤ ((x3 + 3)).toNatClampNeg) then
    (F_R_who (scX ((x3 + 1)).toNatClampNeg) (scX ((x3 + 2)).toNatClampNeg) (scX ((x3 + 3)).toNatClampNeg) z1.2).bind fun z2 =>
    if z1.1 = z2.1 then
      k10 (x3 + 6) z2.2
    else
    some (0, z2.2)
    else none
    else none
    else none
    else none
    else none
    else none
noncomputable def F_Z_law_626 (scL : Nat) (scX : Nat → Int32) (k10 : Int32 → Mem → Option (Int32 × Mem)): Nat → Int32 → Mem → Option (Int32 × Mem)
  | 0, _, _ => none
  | n + 1, x3, s =>
    if ¬ ((x3 + 1) < 0 ∨ scL ≤ ((x3 + 1)).toNatClampNeg) then
    if ¬ ((x3 + 2) < 0 ∨ scL ≤ ((x3 + 2)).toNatClampNeg) then
    if ¬ ((x3 + 3) < 0 ∨ scL ≤ ((x3 + 3)).toNatClampNeg) then
    (F_C_roster (scX ((x3 + 1)).toNatClampNeg) (scX ((x3 + 2)).toNatClampNeg) (scX ((x3 + 3)).toNatClampNeg) s).bind fun z1 =>
    if ¬ ((x3 + 1) < 0 ∨ scL ≤ ((x3 + 1)).toNatClampNeg) then
    if ¬ ((x3 + 2) < 0 ∨ scL ≤ ((x3 + 2)).toNatClampNeg) then
    if ¬ ((x3 + 3) < 0 ∨ scL ≤ ((x3 + 3)).toNatClampNeg) then
    (F_R_roster (scX ((x3 + 1)).toNatClampNeg) (scX ((x3 + 2)).toNatClampNeg) (scX ((x3 + 3)).toNatClampNeg) z1.2).bind fun z2 =>
    if z1.1 = z2.1 then
      k10 (x3 + 6) z2.2
    else
    some (0, z2.2)
    else none
    else none
    else none
    else none
    else none
    else none
noncomputable def F_Z_law_663 (scL : Nat) (scX : Nat → Int32) (k10 : Int32 → Mem → Option (Int32 × Mem)): Nat → Int32 → Mem → Option (Int32 × Mem)
  | 0, _, _ => none
  | n + 1, x3, s =>
    if ¬ ((x3 + 1) < 0 ∨ scL ≤ ((x3 + 1)).toNatClampNeg) then
    (F_C_signer (scX ((x3 + 1)).toNatClampNeg) s).bind fun z1 =>
    if ¬ ((x3 + 1) < 0 ∨ scL ≤ ((x3 + 1)).toNatClampNeg) then
    (F_R_signer (scX ((x3 + 1)).toNatClampNeg) z1.2).bind fun z2 =>
    if z1.1 = z2.1 then
      k10 (x3 + 6) z2.2
    else
    some (0, z2.2)
    else none
    else none
noncomputable def F_Z_law_680 (scL : Nat) (scX : Nat → Int32) (k10 : Int32 → Mem → Option (Int32 × Mem)): Nat → Int32 → Mem → Option (Int32 × Mem)
  | 0, _, _ => none
  | n + 1, x3, s =>
    if ¬ ((x3 + 1) < 0 ∨ scL ≤ ((x3 + 1)).toNatClampNeg) then
    (F_C_signs (scX ((x3 + 1)).toNatClampNeg) s).bind fun z1 =>
    if ¬ ((x3 + 1) < 0 ∨ scL ≤ ((x3 + 1)).toNatClampNeg) then
    (F_R_signs (scX ((x3 + 1)).toNatClampNeg) z1.2).bind fun z2 =>
    if z1.1 = z2.1 then
      k10 (x3 + 6) z2.2
    else
    some (0, z2.2)
    else none
    else none
noncomputable def F_Z_law_697 (scL : Nat) (scX : Nat → Int32) (k10 : Int32 → Mem → Option (Int32 × Mem)): Nat → Int32 → Mem → Option (Int32 × Mem)
  | 0, _, _ => none
  | n + 1, x3, s =>
    if ¬ ((x3 + 1) < 0 ∨ scL ≤ ((x3 + 1)).toNatClampNeg) then
    if ¬ ((x3 + 2) < 0 ∨ scL ≤ ((x3 + 2)).toNatClampNeg) then
    if ¬ ((x3 + 3) < 0 ∨ scL ≤ ((x3 + 3)).toNatClampNeg) then
    (F_C_joined (scX ((x3 + 1)).toNatClampNeg) (scX ((x3 + 2)).toNatClampNeg) (scX ((x3 + 3)).toNatClampNeg) s).bind fun z1 =>
    if ¬ ((x3 + 1) < 0 ∨ scL ≤ ((x3 + 1)).toNatClampNeg) then
    if ¬ ((x3 + 2) < 0 ∨ scL ≤ ((x3 + 2)).toNatClampNeg) then
    if ¬ ((x3 + 3) < 0 ∨ scL ≤ ((x3 + 3)).toNatClampNeg) then
    (F_R_joined (scX ((x3 + 1)).toNatClampNeg) (scX ((x3 + 2)).toNatClampNeg) (scX ((x3 + 3)).toNatClampNeg) z1.2).bind fun z2 =>
    if z1.1 = z2.1 then
      k10 (x3 + 6) z2.2
    else
    some (0, z2.2)
    else none
    else none
    else none
    else none
    else none
    else none
noncomputable def F_Z_law_734 (scL : Nat) (scX : Nat → Int32) (k10 : Int32 → Mem → Option (Int32 × Mem)): Nat → Int32 → Mem → Option (Int32 × Mem)
  | 0, _, _ => none
  | n + 1, x3, s =>
    if ¬ ((x3 + 1) < 0 ∨ scL ≤ ((x3 + 1)).toNatClampNeg) then
    if ¬ ((x3 + 2) < 0 ∨ scL ≤ ((x3 + 2)).toNatClampNeg) then
    (F_C_mutiny (scX ((x3 + 1)).toNatClampNeg) (scX ((x3 + 2)).toNatClampNeg) s).bind fun z1 =>
    if ¬ ((x3 + 1) < 0 ∨ scL ≤ ((x3 + 1)).toNatClampNeg) then
    if ¬ ((x3 + 2) < 0 ∨ scL ≤ ((x3 + 2)).toNatClampNeg) then
    (F_R_mutiny (scX ((x3 + 1)).toNatClampNeg) (scX ((x3 + 2)).toNatClampNeg) z1.2).bind fun z2 =>
    if z1.1 = z2.1 then
      k10 (x3 + 6) z2.2
    else
    some (0, z2.2)
    else none
    else none
    else none
    else none
noncomputable def F_Z_law_761 (scL : Nat) (scX : Nat → Int32) (k10 : Int32 → Mem → Option (Int32 × Mem)): Nat → Int32 → Mem → Option (Int32 × Mem)
  | 0, _, _ => none
  | n + 1, x3, s =>
    if ¬ ((x3 + 1) < 0 ∨ scL ≤ ((x3 + 1)).toNatClampNeg) then
    (F_C_drill (scX ((x3 + 1)).toNatClampNeg) s).bind fun z1 =>
    if ¬ ((x3 + 1) < 0 ∨ scL ≤ ((x3 + 1)).toNatClampNeg) then
    (F_R_drill (scX ((x3 + 1)).toNatClampNeg) z1.2).bind fun z2 =>
    if z1.1 = z2.1 then
      k10 (x3 + 6) z2.2
    else
    some (0, z2.2)
    else none
    else none
noncomputable def F_Z_law_778 (scL : Nat) (scX : Nat → Int32) (k10 : Int32 → Mem → Option (Int32 × Mem)): Nat → Int32 → Mem → Option (Int32 × Mem)
  | 0, _, _ => none
  | n + 1, x3, s =>
    if ¬ ((x3 + 1) < 0 ∨ scL ≤ ((x3 + 1)).toNatClampNeg) then
    if ¬ ((x3 + 2) < 0 ∨ scL ≤ ((x3 + 2)).toNatClampNeg) then
    (F_C_drilled (scX ((x3 + 1)).toNatClampNeg) (scX ((x3 + 2)).toNatClampNeg) s).bind fun z1 =>
    if ¬ ((x3 + 1) < 0 ∨ scL ≤ ((x3 + 1)).toNatClampNeg) then
    if ¬ ((x3 + 2) < 0 ∨ scL ≤ ((x3 + 2)).toNatClampNeg) then
    (F_R_drilled (scX ((x3 + 1)).toNatClampNeg) (scX ((x3 + 2)).toNatClampNeg) z1.2).bind fun z2 =>
    if z1.1 = z2.1 then
      k10 (x3 + 6) z2.2
    else
    some (0, z2.2)
    else none
    else none
    else none
    else none
noncomputable def F_Z_law_805 (scL : Nat) (scX : Nat → Int32) (k10 : Int32 → Mem → Option (Int32 × Mem)): Nat → Int32 → Mem → Option (Int32 × Mem)
  | 0, _, _ => none
  | n + 1, x3, s =>
    if ¬ ((x3 + 1) < 0 ∨ scL ≤ ((x3 + 1)).toNatClampNeg) then
    if ¬ ((x3 + 2) < 0 ∨ scL ≤ ((x3 + 2)).toNatClampNeg) then
    (F_C_between (scX ((x3 + 1)).toNatClampNeg) (scX ((x3 + 2)).toNatClampNeg) s).bind fun z1 =>
    if ¬ ((x3 + 1) < 0 ∨ scL ≤ ((x3 + 1)).toNatClampNeg) then
    if ¬ ((x3 + 2) < 0 ∨ scL ≤ ((x3 + 2)).toNatClampNeg) then
    (F_R_between (scX ((x3 + 1)).toNatClampNeg) (scX ((x3 + 2)).toNatClampNeg) z1.2).bind fun z2 =>
    if z1.1 = z2.1 then
      k10 (x3 + 6) z2.2
    else
    some (0, z2.2)
    else none
    else none
    else none
    else none
noncomputable def F_Z_law_832 (scL : Nat) (scX : Nat → Int32) (k10 : Int32 → Mem → Option (Int32 × Mem)): Nat → Int32 → Mem → Option (Int32 × Mem)
  | 0, _, _ => none
  | n + 1, x3, s =>
    if ¬ ((x3 + 1) < 0 ∨ scL ≤ ((x3 + 1)).toNatClampNeg) then
    if ¬ ((x3 + 2) < 0 ∨ scL ≤ ((x3 + 2)).toNatClampNeg) then
    (F_C_spiral (scX ((x3 + 1)).toNatClampNeg) (scX ((x3 + 2)).toNatClampNeg) s).bind fun z1 =>
    if ¬ ((x3 + 1) < 0 ∨ scL ≤ ((x3 + 1)).toNatClampNeg) then
    if ¬ ((x3 + 2) < 0 ∨ scL ≤ ((x3 + 2)).toNatClampNeg) then
    (F_R_spiral (scX ((x3 + 1)).toNatClampNeg) (scX ((x3 + 2)).toNatClampNeg) z1.2).bind fun z2 =>
    if z1.1 = z2.1 then
      k10 (x3 + 6) z2.2
    else
    some (0, z2.2)
    else none
    else none
    else none
    else none
noncomputable def F_Z_law_859 (scL : Nat) (scX : Nat → Int32) (k10 : Int32 → Mem → Option (Int32 × Mem)): Nat → Int32 → Mem → Option (Int32 × Mem)
  | 0, _, _ => none
  | n + 1, x3, s =>
    if ¬ ((x3 + 1) < 0 ∨ scL ≤ ((x3 + 1)).toNatClampNeg) then
    if ¬ ((x3 + 2) < 0 ∨ scL ≤ ((x3 + 2)).toNatClampNeg) then
    (F_C_winds (scX ((x3 + 1)).toNatClampNeg) (scX ((x3 + 2)).toNatClampNeg) s).bind fun z1 =>
    if ¬ ((x3 + 1) < 0 ∨ scL ≤ ((x3 + 1)).toNatClampNeg) then
    if ¬ ((x3 + 2) < 0 ∨ scL ≤ ((x3 + 2)).toNatClampNeg) then
    (F_R_winds (scX ((x3 + 1)).toNatClampNeg) (scX ((x3 + 2)).toNatClampNeg) z1.2).bind fun z2 =>
    if z1.1 = z2.1 then
      k10 (x3 + 6) z2.2
    else
    some (0, z2.2)
    else none
    else none
    else none
    else none
noncomputable def F_Z_law_886 (scL : Nat) (scX : Nat → Int32) (k10 : Int32 → Mem → Option (Int32 × Mem)): Nat → Int32 → Mem → Option (Int32 × Mem)
  | 0, _, _ => none
  | n + 1, x3, s =>
    if ¬ ((x3 + 1) < 0 ∨ scL ≤ ((x3 + 1)).toNatClampNeg) then
    (F_C_calls (scX ((x3 + 1)).toNatClampNeg) s).bind fun z1 =>
    if ¬ ((x3 + 1) < 0 ∨ scL ≤ ((x3 + 1)).toNatClampNeg) then
    (F_R_calls (scX ((x3 + 1)).toNatClampNeg) z1.2).bind fun z2 =>
    if z1.1 = z2.1 then
      k10 (x3 + 6) z2.2
    else
    some (0, z2.2)
    else none
    else none
noncomputable def F_Z_law_903 (scL : Nat) (scX : Nat → Int32) (k10 : Int32 → Mem → Option (Int32 × Mem)): Nat → Int32 → Mem → Option (Int32 × Mem)
  | 0, _, _ => none
  | n + 1, x3, s =>
    if ¬ ((x3 + 1) < 0 ∨ scL ≤ ((x3 + 1)).toNatClampNeg) then
    (F_C_missing (scX ((x3 + 1)).toNatClampNeg) s).bind fun z1 =>
    if ¬ ((x3 + 1) < 0 ∨ scL ≤ ((x3 + 1)).toNatClampNeg) then
    (F_R_missing (scX ((x3 + 1)).toNatClampNeg) z1.2).bind fun z2 =>
    if z1.1 = z2.1 then
      k10 (x3 + 6) z2.2
    else
    some (0, z2.2)
    else none
    else none
noncomputable def F_Z_law_920 (scL : Nat) (scX : Nat → Int32) (k10 : Int32 → Mem → Option (Int32 × Mem)): Nat → Int32 → Mem → Option (Int32 × Mem)
  | 0, _, _ => none
  | n + 1, x3, s =>
    if ¬ ((x3 + 1) < 0 ∨ scL ≤ ((x3 + 1)).toNatClampNeg) then
    (F_C_length (scX ((x3 + 1)).toNatClampNeg) s).bind fun z1 =>
    if ¬ ((x3 + 1) < 0 ∨ scL ≤ ((x3 + 1)).toNatClampNeg) then
    (F_R_length (scX ((x3 + 1)).toNatClampNeg) z1.2).bind fun z2 =>
    if z1.1 = z2.1 then
      k10 (x3 + 6) z2.2
    else
    some (0, z2.2)
    else none
    else none
noncomputable def F_Z_law_937 (scL : Nat) (scX : Nat → Int32) (k10 : Int32 → Mem → Option (Int32 × Mem)): Nat → Int32 → Mem → Option (Int32 × Mem)
  | 0, _, _ => none
  | n + 1, x3, s =>
    if ¬ ((x3 + 1) < 0 ∨ scL ≤ ((x3 + 1)).toNatClampNeg) then
    if ¬ ((x3 + 2) < 0 ∨ scL ≤ ((x3 + 2)).toNatClampNeg) then
    (F_C_runner (scX ((x3 + 1)).toNatClampNeg) (scX ((x3 + 2)).toNatClampNeg) s).bind fun z1 =>
    if ¬ ((x3 + 1) < 0 ∨ scL ≤ ((x3 + 1)).toNatClampNeg) then
    if ¬ ((x3 + 2) < 0 ∨ scL ≤ ((x3 + 2)).toNatClampNeg) then
    (F_R_runner (scX ((x3 + 1)).toNatClampNeg) (scX ((x3 + 2)).toNatClampNeg) z1.2).bind fun z2 =>
    if z1.1 = z2.1 then
      k10 (x3 + 6) z2.2
    else
    some (0, z2.2)
    else none
    else none
    else none
    else none
noncomputable def F_Z_law_964 (scL : Nat) (scX : Nat → Int32) (k10 : Int32 → Mem → Option (Int32 × Mem)): Nat → Int32 → Mem → Option (Int32 × Mem)
  | 0, _, _ => none
  | n + 1, x3, s =>
    if ¬ ((x3 + 1) < 0 ∨ scL ≤ ((x3 + 1)).toNatClampNeg) then
    (F_C_wall (scX ((x3 + 1)).toNatClampNeg) s).bind fun z1 =>
    if ¬ ((x3 + 1) < 0 ∨ scL ≤ ((x3 + 1)).toNatClampNeg) then
    (F_R_wall (scX ((x3 + 1)).toNatClampNeg) z1.2).bind fun z2 =>
    if z1.1 = z2.1 then
      k10 (x3 + 6) z2.2
    else
    some (0, z2.2)
    else none
    else none
noncomputable def F_Z_law_981 (scL : Nat) (scX : Nat → Int32) (k10 : Int32 → Mem → Option (Int32 × Mem)): Nat → Int32 → Mem → Option (Int32 × Mem)
  | 0, _, _ => none
  | n + 1, x3, s =>
    if ¬ ((x3 + 1) < 0 ∨ scL ≤ ((x3 + 1)).toNatClampNeg) then
    if ¬ ((x3 + 2) < 0 ∨ scL ≤ ((x3 + 2)).toNatClampNeg) then
    (F_C_ramp (scX ((x3 + 1)).toNatClampNeg) (scX ((x3 + 2)).toNatClampNeg) s).bind fun z1 =>
    if ¬ ((x3 + 1) < 0 ∨ scL ≤ ((x3 + 1)).toNatClampNeg) then
    if ¬ ((x3 + 2) < 0 ∨ scL ≤ ((x3 + 2)).toNatClampNeg) then
    (F_R_ramp (scX ((x3 + 1)).toNatClampNeg) (scX ((x3 + 2)).toNatClampNeg) z1.2).bind fun z2 =>
    if z1.1 = z2.1 then
      k10 (x3 + 6) z2.2
    else
    some (0, z2.2)
    else none
    else none
    else none
    else none
noncomputable def F_Z_law_1008 (scL : Nat) (scX : Nat → Int32) (k10 : Int32 → Mem → Option (Int32 × Mem)): Nat → Int32 → Mem → Option (Int32 × Mem)
  | 0, _, _ => none
  | n + 1, x3, s =>
    if ¬ ((x3 + 1) < 0 ∨ scL ≤ ((x3 + 1)).toNatClampNeg) then
    if ¬ ((x3 + 2) < 0 ∨ scL ≤ ((x3 + 2)).toNatClampNeg) then
    if ¬ ((x3 + 3) < 0 ∨ scL ≤ ((x3 + 3)).toNatClampNeg) then
    (F_C_box (scX ((x3 + 1)).toNatClampNeg) (scX ((x3 + 2)).toNatClampNeg) (scX ((x3 + 3)).toNatClampNeg) s).bind fun z1 =>
    if ¬ ((x3 + 1) < 0 ∨ scL ≤ ((x3 + 1)).toNatClampNeg) then
    if ¬ ((x3 + 2) < 0 ∨ scL ≤ ((x3 + 2)).toNatClampNeg) then
    if ¬ ((x3 + 3) < 0 ∨ scL ≤ ((x3 + 3)).toNatClampNeg) then
    (F_R_box (scX ((x3 + 1)).toNatClampNeg) (scX ((x3 + 2)).toNatClampNeg) (scX ((x3 + 3)).toNatClampNeg) z1.2).bind fun z2 =>
    if z1.1 = z2.1 then
      k10 (x3 + 6) z2.2
    else
    some (0, z2.2)
    else none
    else none
    else none
    else none
    else none
    else none
noncomputable def F_Z_law_1045 (scL : Nat) (scX : Nat → Int32) (k10 : Int32 → Mem → Option (Int32 × Mem)): Nat → Int32 → Mem → Option (Int32 × Mem)
  | 0, _, _ => none
  | n + 1, x3, s =>
    if ¬ ((x3 + 1) < 0 ∨ scL ≤ ((x3 + 1)).toNatClampNeg) then
    (F_C_digit (scX ((x3 + 1)).toNatClampNeg) s).bind fun z1 =>
    if ¬ ((x3 + 1) < 0 ∨ scL ≤ ((x3 + 1)).toNatClampNeg) then
    (F_R_digit (scX ((x3 + 1)).toNatClampNeg) z1.2).bind fun z2 =>
    if z1.1 = z2.1 then
      k10 (x3 + 6) z2.2
    else
    some (0, z2.2)
    else none
    else none
noncomputable def F_Z_law_1062 (scL : Nat) (scX : Nat → Int32) (k10 : Int32 → Mem → Option (Int32 × Mem)): Nat → Int32 → Mem → Option (Int32 × Mem)
  | 0, _, _ => none
  | n + 1, x3, s =>
    if ¬ ((x3 + 1) < 0 ∨ scL ≤ ((x3 + 1)).toNatClampNeg) then
    (F_C_cellar (scX ((x3 + 1)).toNatClampNeg) s).bind fun z1 =>
    if ¬ ((x3 + 1) < 0 ∨ scL ≤ ((x3 + 1)).toNatClampNeg) then
    (F_R_cellar (scX ((x3 + 1)).toNatClampNeg) z1.2).bind fun z2 =>
    if z1.1 = z2.1 then
      k10 (x3 + 6) z2.2
    else
    some (0, z2.2)
    else none
    else none
noncomputable def F_Z_law_1079 (scL : Nat) (scX : Nat → Int32) (k10 : Int32 → Mem → Option (Int32 × Mem)): Nat → Int32 → Mem → Option (Int32 × Mem)
  | 0, _, _ => none
  | n + 1, x3, s =>
    if ¬ ((x3 + 1) < 0 ∨ scL ≤ ((x3 + 1)).toNatClampNeg) then
    if ¬ ((x3 + 2) < 0 ∨ scL ≤ ((x3 + 2)).toNatClampNeg) then
    (F_C_coins (scX ((x3 + 1)).toNatClampNeg) (scX ((x3 + 2)).toNatClampNeg) s).bind fun z1 =>
    if ¬ ((x3 + 1) < 0 ∨ scL ≤ ((x3 + 1)).toNatClampNeg) then
    if ¬ ((x3 + 2) < 0 ∨ scL ≤ ((x3 + 2)).toNatClampNeg) then
    (F_R_coins (scX ((x3 + 1)).toNatClampNeg) (scX ((x3 + 2)).toNatClampNeg) z1.2).bind fun z2 =>
    if z1.1 = z2.1 then
      k10 (x3 + 6) z2.2
    else
    some (0, z2.2)
    else none
    else none
    else none
    else none
noncomputable def F_Z_law_1106 (scL : Nat) (scX : Nat → Int32) (k10 : Int32 → Mem → Option (Int32 × Mem)): Nat → Int32 → Mem → Option (Int32 × Mem)
  | 0, _, _ => none
  | n + 1, x3, s =>
    if ¬ ((x3 + 1) < 0 ∨ scL ≤ ((x3 + 1)).toNatClampNeg) then
    (F_C_game (scX ((x3 + 1)).toNatClampNeg) s).bind fun z1 =>
    if ¬ ((x3 + 1) < 0 ∨ scL ≤ ((x3 + 1)).toNatClampNeg) then
    (F_R_game (scX ((x3 + 1)).toNatClampNeg) z1.2).bind fun z2 =>
    if z1.1 = z2.1 then
      k10 (x3 + 6) z2.2
    else
    some (0, z2.2)
    else none
    else none
noncomputable def F_Z_law_1123 (scL : Nat) (scX : Nat → Int32) (k10 : Int32 → Mem → Option (Int32 × Mem)): Nat → Int32 → Mem → Option (Int32 × Mem)
  | 0, _, _ => none
  | n + 1, x3, s =>
    (F_C_undo s).bind fun z1 =>
    (F_R_undo z1.2).bind fun z2 =>
    if z1.1 = z2.1 then
      k10 (x3 + 6) z2.2
    else
    some (0, z2.2)
noncomputable def F_Z_law_1130 (scL : Nat) (scX : Nat → Int32) (k10 : Int32 → Mem → Option (Int32 × Mem)): Nat → Int32 → Mem → Option (Int32 × Mem)
  | 0, _, _ => none
  | n + 1, x3, s =>
    if ¬ ((x3 + 1) < 0 ∨ scL ≤ ((x3 + 1)).toNatClampNeg) then
    if (scX ((x3 + 1)).toNatClampNeg) = 0 then
      (F_C_image 0 s).bind fun z1 =>
      if ¬ ((x3 + 1) < 0 ∨ scL ≤ ((x3 + 1)).toNatClampNeg) then
      if (scX ((x3 + 1)).toNatClampNeg) = 0 then
        (F_R_image 0 z1.2).bind fun z2 =>
        if z1.1 = z2.1 then
          k10 (x3 + 6) z2.2
        else
        some (0, z2.2)
      else
      (F_R_image 1 z1.2).bind fun z3 =>
      if z1.1 = z3.1 then
        k10 (x3 + 6) z3.2
      else
      some (0, z3.2)
      else none
    else
    (F_C_image 1 s).bind fun z4 =>
    if ¬ ((x3 + 1) < 0 ∨ scL ≤ ((x3 + 1)).toNatClampNeg) then
    if (scX ((x3 + 1)).toNatClampNeg) = 0 then
      (F_R_image 0 z4.2).bind fun z5 =>
      if z4.1 = z5.1 then
        k10 (x3 + 6) z5.2
      else
      some (0, z5.2)
    else
    (F_R_image 1 z4.2).bind fun z6 =>
    if z4.1 = z6.1 then
      k10 (x3 + 6) z6.2
    else
    some (0, z6.2)
    else none
    else none
noncomputable def F_Z_law_1155 (scL : Nat) (scX : Nat → Int32) (k10 : Int32 → Mem → Option (Int32 × Mem)): Nat → Int32 → Mem → Option (Int32 × Mem)
  | 0, _, _ => none
  | n + 1, x3, s =>
    if ¬ ((x3 + 1) < 0 ∨ scL ≤ ((x3 + 1)).toNatClampNeg) then
    (F_C_look (scX ((x3 + 1)).toNatClampNeg) s).bind fun z1 =>
    if ¬ ((x3 + 1) < 0 ∨ scL ≤ ((x3 + 1)).toNatClampNeg) then
    (F_R_look (scX ((x3 + 1)).toNatClampNeg) z1.2).bind fun z2 =>
    if z1.1 = z2.1 then
      k10 (x3 + 6) z2.2
    else
    some (0, z2.2)
    else none
    else none
noncomputable def F_Z_law_10 (scL : Nat) (scX : Nat → Int32) : Nat → Int32 → Mem → Option (Int32 × Mem)
  | 0, _, _ => none
  | n + 1, x3, s =>
    if ((nI scL) - 6) < x3 then
      some (1, s)
    else
    if ¬ (x3 < 0 ∨ scL ≤ (x3).toNatClampNeg) then
    if ((scX (x3).toNatClampNeg) &&& 63) = 0 then
      F_Z_law_22 scL scX (F_Z_law_10 scL scX n) gF x3 s
    else
    if ((scX (x3).toNatClampNeg) &&& 63) = 1 then
      F_Z_law_39 scL scX (F_Z_law_10 scL scX n) gF x3 s
    else
    if ((scX (x3).toNatClampNeg) &&& 63) = 2 then
      F_Z_law_66 scL scX (F_Z_law_10 scL scX n) gF x3 s
    else
    if ((scX (x3).toNatClampNeg) &&& 63) = 3 then
      F_Z_law_113 scL scX (F_Z_law_10 scL scX n) gF x3 s
    else
    if ((scX (x3).toNatClampNeg) &&& 63) = 4 then
      F_Z_law_150 scL scX (F_Z_law_10 scL scX n) gF x3 s
    else
    if ((scX (x3).toNatClampNeg) &&& 63) = 5 then
      F_Z_law_205 scL scX (F_Z_law_10 scL scX n) gF x3 s
    else
    if ((scX (x3).toNatClampNeg) &&& 63) = 6 then
      F_Z_law_222 scL scX (F_Z_law_10 scL scX n) gF x3 s
    else
    if ((scX (x3).toNatClampNeg) &&& 63) = 7 then
      F_Z_law_279 scL scX (F_Z_law_10 scL scX n) gF x3 s
    else
    if ((scX (x3).toNatClampNeg) &&& 63) = 8 then
      F_Z_law_296 scL scX (F_Z_law_10 scL scX n) gF x3 s
    else
    if ((scX (x3).toNatClampNeg) &&& 63) = 9 then
      F_Z_law_313 scL scX (F_Z_law_10 scL scX n) gF x3 s
    else
    if ((scX (x3).toNatClampNeg) &&& 63) = 10 then
      F_Z_law_330 scL scX (F_Z_law_10 scL scX n) gF x3 s
    else
    if ((scX (x3).toNatClampNeg) &&& 63) = 11 then
      F_Z_law_367 scL scX (F_Z_law_10 scL scX n) gF x3 s
    else
    if ((scX (x3).toNatClampNeg) &&& 63) = 12 then
      F_Z_law_414 scL scX (F_Z_law_10 scL scX n) gF x3 s
    else
    if ((scX (x3).toNatClampNeg) &&& 63) = 13 then
      F_Z_law_461 scL scX (F_Z_law_10 scL scX n) gF x3 s
    else
    if ((scX (x3).toNatClampNeg) &&& 63) = 14 then
      F_Z_law_488 scL scX (F_Z_law_10 scL scX n) gF x3 s
    else
    if ((scX (x3).toNatClampNeg) &&& 63) = 15 then
      F_Z_law_515 scL scX (F_Z_law_10 scL scX n) gF x3 s
    else
    if ((scX (x3).toNatClampNeg) &&& 63) = 16 then
      F_Z_law_562 scL scX (F_Z_law_10 scL scX n) gF x3 s
    else
    if ((scX (x3).toNatClampNeg) &&& 63) = 17 then
      F_Z_law_589 scL scX (F_Z_law_10 scL scX n) gF x3 s
    else
    if ((scX (x3).toNatClampNeg) &&& 63) = 18 then
      F_Z_law_626 scL scX (F_Z_law_10 scL scX n) gF x3 s
    else
    if ((scX (x3).toNatClampNeg) &&& 63) = 19 then
      F_Z_law_663 scL scX (F_Z_law_10 scL scX n) gF x3 s
    else
    if ((scX (x3).toNatClampNeg) &&& 63) = 20 then
      F_Z_law_680 scL scX (F_Z_law_10 scL scX n) gF x3 s
    else
    if ((scX (x3).toNatClampNeg) &&& 63) = 21 then
      F_Z_law_697 scL scX (F_Z_law_10 scL scX n) gF x3 s
    else
    if ((scX (x3).toNatClampNeg) &&& 63) = 22 then
      F_Z_law_734 scL scX (F_Z_law_10 scL scX n) gF x3 s
    else
    if ((scX (x3).toNatClampNeg) &&& 63) = 23 then
      F_Z_law_761 scL scX (F_Z_law_10 scL scX n) gF x3 s
    else
    if ((scX (x3).toNatClampNeg) &&& 63) = 24 then
      F_Z_law_778 scL scX (F_Z_law_10 scL scX n) gF x3 s
    else
    if ((scX (x3).toNatClampNeg) &&& 63) = 25 then
      F_Z_law_805 scL scX (F_Z_law_10 scL scX n) gF x3 s
    else
    if ((scX (x3).toNatClampNeg) &&& 63) = 26 then
      F_Z_law_832 scL scX (F_Z_law_10 scL scX n) gF x3 s
    else
    if ((scX (x3).toNatClampNeg) &&& 63) = 27 then
      F_Z_law_859 scL scX (F_Z_law_10 scL scX n) gF x3 s
    else
    if ((scX (x3).toNatClampNeg) &&& 63) = 28 then
      F_Z_law_886 scL scX (F_Z_law_10 scL scX n) gF x3 s
    else
    if ((scX (x3).toNatClampNeg) &&& 63) = 29 then
      F_Z_law_903 scL scX (F_Z_law_10 scL scX n) gF x3 s
    else
    if ((scX (x3).toNatClampNeg) &&& 63) = 30 then
      F_Z_law_920 scL scX (F_Z_law_10 scL scX n) gF x3 s
    else
    if ((scX (x3).toNatClampNeg) &&& 63) = 31 then
      F_Z_law_937 scL scX (F_Z_law_10 scL scX n) gF x3 s
    else
    if ((scX (x3).toNatClampNeg) &&& 63) = 32 then
      F_Z_law_964 scL scX (F_Z_law_10 scL scX n) gF x3 s
    else
    if ((scX (x3).toNatClampNeg) &&& 63) = 33 then
      F_Z_law_981 scL scX (F_Z_law_10 scL scX n) gF x3 s
    else
    if ((scX (x3).toNatClampNeg) &&& 63) = 34 then
      F_Z_law_1008 scL scX (F_Z_law_10 scL scX n) gF x3 s
    else
    if ((scX (x3).toNatClampNeg) &&& 63) = 35 then
      F_Z_law_1045 scL scX (F_Z_law_10 scL scX n) gF x3 s
    else
    if ((scX (x3).toNatClampNeg) &&& 63) = 36 then
      F_Z_law_1062 scL scX (F_Z_law_10 scL scX n) gF x3 s
    else
    if ((scX (x3).toNatClampNeg) &&& 63) = 37 then
      F_Z_law_1079 scL scX (F_Z_law_10 scL scX n) gF x3 s
    else
    if ((scX (x3).toNatClampNeg) &&& 63) = 38 then
      F_Z_law_1106 scL scX (F_Z_law_10 scL scX n) gF x3 s
    else
    if ((scX (x3).toNatClampNeg) &&& 63) = 39 then
      F_Z_law_1123 scL scX (F_Z_law_10 scL scX n) gF x3 s
    else
    if ((scX (x3).toNatClampNeg) &&& 63) = 40 then
      F_Z_law_1130 scL scX (F_Z_law_10 scL scX n) gF x3 s
    else
    if ((scX (x3).toNatClampNeg) &&& 63) = 41 then
      F_Z_law_1155 scL scX (F_Z_law_10 scL scX n) gF x3 s
    else
    F_Z_law_10 scL scX n (x3 + 6) s
    else none
def A_Z_law (f : Int32 → Mem → Option (Int32 × Mem)) (ls : List (Option Value)) (s : Mem) : Option (Int32 × Mem) := match lk ls 0, lk ls 1, lk ls 2, lk ls 3 with
  | some (.ref a0), some (.ref a1), some (.ref a2), some (.int a3) => cbr (Nat.beq a0 1000) (cbr (Nat.beq a1 0) (cbr (Nat.beq a2 123) (f a3 s) none) none) none
  | _, _, _, _ => none
noncomputable def C_Z_law (k : Nat) (av : List Value) (s : Mem) : Option (Int32 × Mem) := cbr (Nat.beq k 1) (A_C_state av s) (cbr (Nat.beq k 198) (A_R_state av s) (cbr (Nat.beq k 6) (A_C_flight av s) (cbr (Nat.beq k 203) (A_R_flight av s) (cbr (Nat.beq k 11) (A_C_set av s) (cbr (Nat.beq k 204) (A_R_set av s) (cbr (Nat.beq k 19) (A_C_order av s) (cbr (Nat.beq k 254) (A_R_order av s) (cbr (Nat.beq k 36) (A_C_visit av s) (cbr (Nat.beq k 257) (A_R_visit av s) (cbr (Nat.beq k 40) (A_C_nights av s) (cbr (Nat.beq k 260) (A_R_nights av s) (cbr (Nat.beq k 42) (A_C_feed av s) (cbr (Nat.beq k 206) (A_R_feed av s) (cbr (Nat.beq k 43) (A_C_end av s) (cbr (Nat.beq k 207) (A_R_end av s) (cbr (Nat.beq k 83) (A_C_text av s) (cbr (Nat.beq k 242) (A_R_text av s) (cbr (Nat.beq k 84) (A_C_fault av s) (cbr (Nat.beq k 243) (A_R_fault av s) (cbr (Nat.beq k 86) (A_C_of av s) (cbr (Nat.beq k 262) (A_R_of av s) (cbr (Nat.beq k 88) (A_C_creaks av s) (cbr (Nat.beq k 264) (A_R_creaks av s) (cbr (Nat.beq k 89) (A_C_wears av s) (cbr (Nat.beq k 265) (A_R_wears av s) (cbr (Nat.beq k 91) (A_C_book av s) (cbr (Nat.beq k 266) (A_R_book av s) (cbr (Nat.beq k 96) (A_C_goes av s) (cbr (Nat.beq k 269) (A_R_goes av s) (cbr (Nat.beq k 100) (A_C_unheard av s) (cbr (Nat.beq k 271) (A_R_unheard av s) (cbr (Nat.beq k 103) (A_C_suspect av s) (cbr (Nat.beq k 272) (A_R_suspect av s) (cbr (Nat.beq k 109) (A_C_who av s) (cbr (Nat.beq k 276) (A_R_who av s) (cbr (Nat.beq k 114) (A_C_roster av s) (cbr (Nat.beq k 279) (A_R_roster av s) (cbr (Nat.beq k 129) (A_C_signer av s) (cbr (Nat.beq k 280) (A_R_signer av s) (cbr (Nat.beq k 136) (A_C_signs av s) (cbr (Nat.beq k 284) (A_R_signs av s) (cbr (Nat.beq k 118) (A_C_joined av s) (cbr (Nat.beq k 287) (A_R_joined av s) (cbr (Nat.beq k 127) (A_C_mutiny av s) (cbr (Nat.beq k 293) (A_R_mutiny av s) (cbr (Nat.beq k 137) (A_C_drill av s) (cbr (Nat.beq k 294) (A_R_drill av s) (cbr (Nat.beq k 142) (A_C_drilled av s) (cbr (Nat.beq k 297) (A_R_drilled av s) (cbr (Nat.beq k 145) (A_C_between av s) (cbr (Nat.beq k 298) (A_R_between av s) (cbr (Nat.beq k 148) (A_C_spiral av s) (cbr (Nat.beq k 300) (A_R_spiral av s) (cbr (Nat.beq k 150) (A_C_winds av s) (cbr (Nat.beq k 301) (A_R_winds av s) (cbr (Nat.beq k 152) (A_C_calls av s) (cbr (Nat.beq k 302) (A_R_calls av s) (cbr (Nat.beq k 156) (A_C_missing av s) (cbr (Nat.beq k 303) (A_R_missing av s) (cbr (Nat.beq k 157) (A_C_length av s) (cbr (Nat.beq k 304) (A_R_length av s) (cbr (Nat.beq k 162) (A_C_runner av s) (cbr (Nat.beq k 307) (A_R_runner av s) (cbr (Nat.beq k 163) (A_C_wall av s) (cbr (Nat.beq k 308) (A_R_wall av s) (cbr (Nat.beq k 165) (A_C_ramp av s) (cbr (Nat.beq k 309) (A_R_ramp av s) (cbr (Nat.beq k 168) (A_C_box av s) (cbr (Nat.beq k 310) (A_R_box av s) (cbr (Nat.beq k 169) (A_C_digit av s) (cbr (Nat.beq k 311) (A_R_digit av s) (cbr (Nat.beq k 177) (A_C_cellar av s) (cbr (Nat.beq k 316) (A_R_cellar av s) (cbr (Nat.beq k 178) (A_C_coins av s) (cbr (Nat.beq k 317) (A_R_coins av s) (cbr (Nat.beq k 180) (A_C_game av s) (cbr (Nat.beq k 318) (A_R_game av s) (cbr (Nat.beq k 181) (A_C_undo av s) (cbr (Nat.beq k 195) (A_R_undo av s) (cbr (Nat.beq k 186) (A_C_image av s) (cbr (Nat.beq k 323) (A_R_image av s) (cbr (Nat.beq k 92) (A_C_look av s) (cbr (Nat.beq k 324) (A_R_look av s) (none))))))))))))))))))))))))))))))))))))))))))))))))))))))))))))))))))))))))))))))))))))
set_option maxRecDepth 1000000 in
theorem e_Z_law_22 (scL : Nat) (scX : Nat → Int32) (k10 : Int32 → Mem → Option (Int32 × Mem))(n : Nat) (x3 : Int32) (s : Mem) : F_Z_law_22 scL scX k10 (n + 1) x3 s = xs C_Z_law (fun k ls s => cbr (Nat.beq k 0) (A_Z_law (k10) ls s) (none)) scL scX K_Z_law 700 (K_Z_law.drop 14) [some (.ref 1000), some (.ref 0), some (.ref 123), some (.int x3)] [] s := rfl
set_option maxRecDepth 1000000 in
theorem e_Z_law_39 (scL : Nat) (scX : Nat → Int32) (k10 : Int32 → Mem → Option (Int32 × Mem))(n : Nat) (x3 : Int32) (s : Mem) : F_Z_law_39 scL scX k10 (n + 1) x3 s = xs C_Z_law (fun k ls s => cbr (Nat.beq k 0) (A_Z_law (k10) ls s) (none)) scL scX K_Z_law 700 (K_Z_law.drop 32) [some (.ref 1000), some (.ref 0), some (.ref 123), some (.int x3)] [] s := rfl
set_option maxRecDepth 1000000 in
theorem e_Z_law_66 (scL : Nat) (scX : Nat → Int32) (k10 : Int32 → Mem → Option (Int32 × Mem))(n : Nat) (x3 : Int32) (s : Mem) : F_Z_law_66 scL scX k10 (n + 1) x3 s = xs C_Z_law (fun k ls s => cbr (Nat.beq k 0) (A_Z_law (k10) ls s) (none)) scL scX K_Z_law 700 (K_Z_law.drop 60) [some (.ref 1000), some (.ref 0), some (.ref 123), some (.int x3)] [] s := rfl
set_option maxRecDepth 1000000 in
theorem e_Z_law_113 (scL : Nat) (scX : Nat → Int32) (k10 : Int32 → Mem → Option (Int32 × Mem))(n : Nat) (x3 : Int32) (s : Mem) : F_Z_law_113 scL scX k10 (n + 1) x3 s = xs C_Z_law (fun k ls s => cbr (Nat.beq k 0) (A_Z_law (k10) ls s) (none)) scL scX K_Z_law 700 (K_Z_law.drop 108) [some (.ref 1000), some (.ref 0), some (.ref 123), some (.int x3)] [] s := rfl
set_option maxRecDepth 1000000 in
theorem e_Z_law_150 (scL : Nat) (scX : Nat → Int32) (k10 : Int32 → Mem → Option (Int32 × Mem))(n : Nat) (x3 : Int32) (s : Mem) : F_Z_law_150 scL scX k10 (n + 1) x3 s = xs C_Z_law (fun k ls s => cbr (Nat.beq k 0) (A_Z_law (k10) ls s) (none)) scL scX K_Z_law 700 (K_Z_law.drop 146) [some (.ref 1000), some (.ref 0), some (.ref 123), some (.int x3)] [] s := rfl
set_option maxRecDepth 1000000 in
theorem e_Z_law_205 (scL : Nat) (scX : Nat → Int32) (k10 : Int32 → Mem → Option (Int32 × Mem))(n : Nat) (x3 : Int32) (s : Mem) : F_Z_law_205 scL scX k10 (n + 1) x3 s = xs C_Z_law (fun k ls s => cbr (Nat.beq k 0) (A_Z_law (k10) ls s) (none)) scL scX K_Z_law 700 (K_Z_law.drop 202) [some (.ref 1000), some (.ref 0), some (.ref 123), some (.int x3)] [] s := rfl
set_option maxRecDepth 1000000 in
theorem e_Z_law_222 (scL : Nat) (scX : Nat → Int32) (k10 : Int32 → Mem → Option (Int32 × Mem))(n : Nat) (x3 : Int32) (s : Mem) : F_Z_law_222 scL scX k10 (n + 1) x3 s = xs C_Z_law (fun k ls s => cbr (Nat.beq k 0) (A_Z_law (k10) ls s) (none)) scL scX K_Z_law 700 (K_Z_law.drop 220) [some (.ref 1000), some (.ref 0), some (.ref 123), some (.int x3)] [] s := rfl
set_option maxRecDepth 1000000 in
theorem e_Z_law_279 (scL : Nat) (scX : Nat → Int32) (k10 : Int32 → Mem → Option (Int32 × Mem))(n : Nat) (x3 : Int32) (s : Mem) : F_Z_law_279 scL scX k10 (n + 1) x3 s = xs C_Z_law (fun k ls s => cbr (Nat.beq k 0) (A_Z_law (k10) ls s) (none)) scL scX K_Z_law 700 (K_Z_law.drop 278) [some (.ref 1000), some (.ref 0), some (.ref 123), some (.int x3)] [] s := rfl
set_option maxRecDepth 1000000 in
theorem e_Z_law_296 (scL : Nat) (scX : Nat → Int32) (k10 : Int32 → Mem → Option (Int32 × Mem))(n : Nat) (x3 : Int32) (s : Mem) : F_Z_law_296 scL scX k10 (n + 1) x3 s = xs C_Z_law (fun k ls s => cbr (Nat.beq k 0) (A_Z_law (k10) ls s) (none)) scL scX K_Z_law 700 (K_Z_law.drop 296) [some (.ref 1000), some (.ref 0), some (.ref 123), some (.int x3)] [] s := rfl
set_option maxRecDepth 1000000 in
theorem e_Z_law_313 (scL : Nat) (scX : Nat → Int32) (k10 : Int32 → Mem → Option (Int32 × Mem))(n : Nat) (x3 : Int32) (s : Mem) : F_Z_law_313 scL scX k10 (n + 1) x3 s = xs C_Z_law (fun k ls s => cbr (Nat.beq k 0) (A_Z_law (k10) ls s) (none)) scL scX K_Z_law 700 (K_Z_law.drop 314) [some (.ref 1000), some (.ref 0), some (.ref 123), some (.int x3)] [] s := rfl
set_option maxRecDepth 1000000 in
theorem e_Z_law_330 (scL : Nat) (scX : Nat → Int32) (k10 : Int32 → Mem → Option (Int32 × Mem))(n : Nat) (x3 : Int32) (s : Mem) : F_Z_law_330 scL scX k10 (n + 1) x3 s = xs C_Z_law (fun k ls s => cbr (Nat.beq k 0) (A_Z_law (k10) ls s) (none)) scL scX K_Z_law 700 (K_Z_law.drop 332) [some (.ref 1000), some (.ref 0), some (.ref 123), some (.int x3)] [] s := rfl
set_option maxRecDepth 1000000 in
theorem e_Z_law_367 (scL : Nat) (scX : Nat → Int32) (k10 : Int32 → Mem → Option (Int32 × Mem))(n : Nat) (x3 : Int32) (s : Mem) : F_Z_law_367 scL scX k10 (n + 1) x3 s = xs C_Z_law (fun k ls s => cbr (Nat.beq k 0) (A_Z_law (k10) ls s) (none)) scL scX K_Z_law 700 (K_Z_law.drop 370) [some (.ref 1000), some (.ref 0), some (.ref 123), some (.int x3)] [] s := rfl
set_option maxRecDepth 1000000 in
theorem e_Z_law_414 (scL : Nat) (scX : Nat → Int32) (k10 : Int32 → Mem → Option (Int32 × Mem))(n : Nat) (x3 : Int32) (s : Mem) : F_Z_law_414 scL scX k10 (n + 1) x3 s = xs C_Z_law (fun k ls s => cbr (Nat.beq k 0) (A_Z_law (k10) ls s) (none)) scL scX K_Z_law 700 (K_Z_law.drop 418) [some (.ref 1000), some (.ref 0), some (.ref 123), some (.int x3)] [] s := rfl
set_option maxRecDepth 1000000 in
theorem e_Z_law_461 (scL : Nat) (scX : Nat → Int32) (k10 : Int32 → Mem → Option (Int32 × Mem))(n : Nat) (x3 : Int32) (s : Mem) : F_Z_law_461 scL scX k10 (n + 1) x3 s = xs C_Z_law (fun k ls s => cbr (Nat.beq k 0) (A_Z_law (k10) ls s) (none)) scL scX K_Z_law 700 (K_Z_law.drop 466) [some (.ref 1000), some (.ref 0), some (.ref 123), some (.int x3)] [] s := rfl
set_option maxRecDepth 1000000 in
theorem e_Z_law_488 (scL : Nat) (scX : Nat → Int32) (k10 : Int32 → Mem → Option (Int32 × Mem))(n : Nat) (x3 : Int32) (s : Mem) : F_Z_law_488 scL scX k10 (n + 1) x3 s = xs C_Z_law (fun k ls s => cbr (Nat.beq k 0) (A_Z_law (k10) ls s) (none)) scL scX K_Z_law 700 (K_Z_law.drop 494) [some (.ref 1000), some (.ref 0), some (.ref 123), some (.int x3)] [] s := rfl
set_option maxRecDepth 1000000 in
theorem e_Z_law_515 (scL : Nat) (scX : Nat → Int32) (k10 : Int32 → Mem → Option (Int32 × Mem))(n : Nat) (x3 : Int32) (s : Mem) : F_Z_law_515 scL scX k10 (n + 1) x3 s = xs C_Z_law (fun k ls s => cbr (Nat.beq k 0) (A_Z_law (k10) ls s) (none)) scL scX K_Z_law 700 (K_Z_law.drop 522) [some (.ref 1000), some (.ref 0), some (.ref 123), some (.int x3)] [] s := rfl
set_option maxRecDepth 1000000 in
theorem e_Z_law_562 (scL : Nat) (scX : Nat → Int32) (k10 : Int32 → Mem → Option (Int32 × Mem))(n : Nat) (x3 : Int32) (s : Mem) : F_Z_law_562 scL scX k10 (n + 1) x3 s = xs C_Z_law (fun k ls s => cbr (Nat.beq k 0) (A_Z_law (k10) ls s) (none)) scL scX K_Z_law 700 (K_Z_law.drop 570) [some (.ref 1000), some (.ref 0), some (.ref 123), some (.int x3)] [] s := rfl
set_option maxRecDepth 1000000 in
theorem e_Z_law_589 (scL : Nat) (scX : Nat → Int32) (k10 : Int32 → Mem → Option (Int32 × Mem))(n : Nat) (x3 : Int32) (s : Mem) : F_Z_law_589 scL scX k10 (n + 1) x3 s = xs C_Z_law (fun k ls s => cbr (Nat.beq k 0) (A_Z_law (k10) ls s) (none)) scL scX K_Z_law 700 (K_Z_law.drop 598) [some (.ref 1000), some (.ref 0), some (.ref 123), some (.int x3)] [] s := rfl
set_option maxRecDepth 1000000 in
theorem e_Z_law_626 (scL : Nat) (scX : Nat → Int32) (k10 : Int32 → Mem → Option (Int32 × Mem))(n : Nat) (x3 : Int32) (s : Mem) : F_Z_law_626 scL scX k10 (n + 1) x3 s = xs C_Z_law (fun k ls s => cbr (Nat.beq k 0) (A_Z_law (k10) ls s) (none)) scL scX K_Z_law 700 (K_Z_law.drop 636) [some (.ref 1000), some (.ref 0), some (.ref 123), some (.int x3)] [] s := rfl
set_option maxRecDepth 1000000 in
theorem e_Z_law_663 (scL : Nat) (scX : Nat → Int32) (k10 : Int32 → Mem → Option (Int32 × Mem))(n : Nat) (x3 : Int32) (s : Mem) : F_Z_law_663 scL scX k10 (n + 1) x3 s = xs C_Z_law (fun k ls s => cbr (Nat.beq k 0) (A_Z_law (k10) ls s) (none)) scL scX K_Z_law 700 (K_Z_law.drop 674) [some (.ref 1000), some (.ref 0), some (.ref 123), some (.int x3)] [] s := rfl
set_option maxRecDepth 1000000 in
theorem e_Z_law_680 (scL : Nat) (scX : Nat → Int32) (k10 : Int32 → Mem → Option (Int32 × Mem))(n : Nat) (x3 : Int32) (s : Mem) : F_Z_law_680 scL scX k10 (n + 1) x3 s = xs C_Z_law (fun k ls s => cbr (Nat.beq k 0) (A_Z_law (k10) ls s) (none)) scL scX K_Z_law 700 (K_Z_law.drop 692) [some (.ref 1000), some (.ref 0), some (.ref 123), some (.int x3)] [] s := rfl
set_option maxRecDepth 1000000 in
theorem e_Z_law_697 (scL : Nat) (scX : Nat → Int32) (k10 : Int32 → Mem → Option (Int32 × Mem))(n : Nat) (x3 : Int32) (s : Mem) : F_Z_law_697 scL scX k10 (n + 1) x3 s = xs C_Z_law (fun k ls s => cbr (Nat.beq k 0) (A_Z_law (k10) ls s) (none)) scL scX K_Z_law 700 (K_Z_law.drop 710) [some (.ref 1000), some (.ref 0), some (.ref 123), some (.int x3)] [] s := rfl
set_option maxRecDepth 1000000 in
theorem e_Z_law_734 (scL : Nat) (scX : Nat → Int32) (k10 : Int32 → Mem → Option (Int32 × Mem))(n : Nat) (x3 : Int32) (s : Mem) : F_Z_law_734 scL scX k10 (n + 1) x3 s = xs C_Z_law (fun k ls s => cbr (Nat.beq k 0) (A_Z_law (k10) ls s) (none)) scL scX K_Z_law 700 (K_Z_law.drop 748) [some (.ref 1000), some (.ref 0), some (.ref 123), some (.int x3)] [] s := rfl
set_option maxRecDepth 1000000 in
theorem e_Z_law_761 (scL : Nat) (scX : Nat → Int32) (k10 : Int32 → Mem → Option (Int32 × Mem))(n : Nat) (x3 : Int32) (s : Mem) : F_Z_law_761 scL scX k10 (n + 1) x3 s = xs C_Z_law (fun k ls s => cbr (Nat.beq k 0) (A_Z_law (k10) ls s) (none)) scL scX K_Z_law 700 (K_Z_law.drop 776) [some (.ref 1000), some (.ref 0), some (.ref 123), some (.int x3)] [] s := rfl
set_option maxRecDepth 1000000 in
theorem e_Z_law_778 (scL : Nat) (scX : Nat → Int32) (k10 : Int32 → Mem → Option (Int32 × Mem))(n : Nat) (x3 : Int32) (s : Mem) : F_Z_law_778 scL scX k10 (n + 1) x3 s = xs C_Z_law (fun k ls s => cbr (Nat.beq k 0) (A_Z_law (k10) ls s) (none)) scL scX K_Z_law 700 (K_Z_law.drop 794) [some (.ref 1000), some (.ref 0), some (.ref 123), some (.int x3)] [] s := rfl
set_option maxRecDepth 1000000 in
theorem e_Z_law_805 (scL : Nat) (scX : Nat → Int32) (k10 : Int32 → Mem → Option (Int32 × Mem))(n : Nat) (x3 : Int32) (s : Mem) : F_Z_law_805 scL scX k10 (n + 1) x3 s = xs C_Z_law (fun k ls s => cbr (Nat.beq k 0) (A_Z_law (k10) ls s) (none)) scL scX K_Z_law 700 (K_Z_law.drop 822) [some (.ref 1000), some (.ref 0), some (.ref 123), some (.int x3)] [] s := rfl
set_option maxRecDepth 1000000 in
theorem e_Z_law_832 (scL : Nat) (scX : Nat → Int32) (k10 : Int32 → Mem → Option (Int32 × Mem))(n : Nat) (x3 : Int32) (s : Mem) : F_Z_law_832 scL scX k10 (n + 1) x3 s = xs C_Z_law (fun k ls s => cbr (Nat.beq k 0) (A_Z_law (k10) ls s) (none)) scL scX K_Z_law 700 (K_Z_law.drop 850) [some (.ref 1000), some (.ref 0), some (.ref 123), some (.int x3)] [] s := rfl
set_option maxRecDepth 1000000 in
theorem e_Z_law_859 (scL : Nat) (scX : Nat → Int32) (k10 : Int32 → Mem → Option (Int32 × Mem))(n : Nat) (x3 : Int32) (s : Mem) : F_Z_law_859 scL scX k10 (n + 1) x3 s = xs C_Z_law (fun k ls s => cbr (Nat.beq k 0) (A_Z_law (k10) ls s) (none)) scL scX K_Z_law 700 (K_Z_law.drop 878) [some (.ref 1000), some (.ref 0), some (.ref 123), some (.int x3)] [] s := rfl
set_option maxRecDepth 1000000 in
theorem e_Z_law_886 (scL : Nat) (scX : Nat → Int32) (k10 : Int32 → Mem → Option (Int32 × Mem))(n : Nat) (x3 : Int32) (s : Mem) : F_Z_law_886 scL scX k10 (n + 1) x3 s = xs C_Z_law (fun k ls s => cbr (Nat.beq k 0) (A_Z_law (k10) ls s) (none)) scL scX K_Z_law 700 (K_Z_law.drop 906) [some (.ref 1000), some (.ref 0), some (.ref 123), some (.int x3)] [] s := rfl
set_option maxRecDepth 1000000 in
theorem e_Z_law_903 (scL : Nat) (scX : Nat → Int32) (k10 : Int32 → Mem → Option (Int32 × Mem))(n : Nat) (x3 : Int32) (s : Mem) : F_Z_law_903 scL scX k10 (n + 1) x3 s = xs C_Z_law (fun k ls s => cbr (Nat.beq k 0) (A_Z_law (k10) ls s) (none)) scL scX K_Z_law 700 (K_Z_law.drop 924) [some (.ref 1000), some (.ref 0), some (.ref 123), some (.int x3)] [] s := rfl
set_option maxRecDepth 1000000 in
theorem e_Z_law_920 (scL : Nat) (scX : Nat → Int32) (k10 : Int32 → Mem → Option (Int32 × Mem))(n : Nat) (x3 : Int32) (s : Mem) : F_Z_law_920 scL scX k10 (n + 1) x3 s = xs C_Z_law (fun k ls s => cbr (Nat.beq k 0) (A_Z_law (k10) ls s) (none)) scL scX K_Z_law 700 (K_Z_law.drop 942) [some (.ref 1000), some (.ref 0), some (.ref 123), some (.int x3)] [] s := rfl
set_option maxRecDepth 1000000 in
theorem e_Z_law_937 (scL : Nat) (scX : Nat → Int32) (k10 : Int32 → Mem → Option (Int32 × Mem))(n : Nat) (x3 : Int32) (s : Mem) : F_Z_law_937 scL scX k10 (n + 1) x3 s = xs C_Z_law (fun k ls s => cbr (Nat.beq k 0) (A_Z_law (k10) ls s) (none)) scL scX K_Z_law 700 (K_Z_law.drop 960) [some (.ref 1000), some (.ref 0), some (.ref 123), some (.int x3)] [] s := rfl
set_option maxRecDepth 1000000 in
theorem e_Z_law_964 (scL : Nat) (scX : Nat → Int32) (k10 : Int32 → Mem → Option (Int32 × Mem))(n : Nat) (x3 : Int32) (s : Mem) : F_Z_law_964 scL scX k10 (n + 1) x3 s = xs C_Z_law (fun k ls s => cbr (Nat.beq k 0) (A_Z_law (k10) ls s) (none)) scL scX K_Z_law 700 (K_Z_law.drop 988) [some (.ref 1000), some (.ref 0), some (.ref 123), some (.int x3)] [] s := rfl
set_option maxRecDepth 1000000 in
theorem e_Z_law_981 (scL : Nat) (scX : Nat → Int32) (k10 : Int32 → Mem → Option (Int32 × Mem))(n : Nat) (x3 : Int32) (s : Mem) : F_Z_law_981 scL scX k10 (n + 1) x3 s = xs C_Z_law (fun k ls s => cbr (Nat.beq k 0) (A_Z_law (k10) ls s) (none)) scL scX K_Z_law 700 (K_Z_law.drop 1006) [some (.ref 1000), some (.ref 0), some (.ref 123), some (.int x3)] [] s := rfl
set_option maxRecDepth 1000000 in
theorem e_Z_law_1008 (scL : Nat) (scX : Nat → Int32) (k10 : Int32 → Mem → Option (Int32 × Mem))(n : Nat) (x3 : Int32) (s : Mem) : F_Z_law_1008 scL scX k10 (n + 1) x3 s = xs C_Z_law (fun k ls s => cbr (Nat.beq k 0) (A_Z_law (k10) ls s) (none)) scL scX K_Z_law 700 (K_Z_law.drop 1034) [some (.ref 1000), some (.ref 0), some (.ref 123), some (.int x3)] [] s := rfl
set_option maxRecDepth 1000000 in
theorem e_Z_law_1045 (scL : Nat) (scX : Nat → Int32) (k10 : Int32 → Mem → Option (Int32 × Mem))(n : Nat) (x3 : Int32) (s : Mem) : F_Z_law_1045 scL scX k10 (n + 1) x3 s = xs C_Z_law (fun k ls s => cbr (Nat.beq k 0) (A_Z_law (k10) ls s) (none)) scL scX K_Z_law 700 (K_Z_law.drop 1072) [some (.ref 1000), some (.ref 0), some (.ref 123), some (.int x3)] [] s := rfl
set_option maxRecDepth 1000000 in
theorem e_Z_law_1062 (scL : Nat) (scX : Nat → Int32) (k10 : Int32 → Mem → Option (Int32 × Mem))(n : Nat) (x3 : Int32) (s : Mem) : F_Z_law_1062 scL scX k10 (n + 1) x3 s = xs C_Z_law (fun k ls s => cbr (Nat.beq k 0) (A_Z_law (k10) ls s) (none)) scL scX K_Z_law 700 (K_Z_law.drop 1090) [some (.ref 1000), some (.ref 0), some (.ref 123), some (.int x3)] [] s := rfl
set_option maxRecDepth 1000000 in
theorem e_Z_law_1079 (scL : Nat) (scX : Nat → Int32) (k10 : Int32 → Mem → Option (Int32 × Mem))(n : Nat) (x3 : Int32) (s : Mem) : F_Z_law_1079 scL scX k10 (n + 1) x3 s = xs C_Z_law (fun k ls s => cbr (Nat.beq k 0) (A_Z_law (k10) ls s) (none)) scL scX K_Z_law 700 (K_Z_law.drop 1108) [some (.ref 1000), some (.ref 0), some (.ref 123), some (.int x3)] [] s := rfl
set_option maxRecDepth 1000000 in
theorem e_Z_law_1106 (scL : Nat) (scX : Nat → Int32) (k10 : Int32 → Mem → Option (Int32 × Mem))(n : Nat) (x3 : Int32) (s : Mem) : F_Z_law_1106 scL scX k10 (n + 1) x3 s = xs C_Z_law (fun k ls s => cbr (Nat.beq k 0) (A_Z_law (k10) ls s) (none)) scL scX K_Z_law 700 (K_Z_law.drop 1136) [some (.ref 1000), some (.ref 0), some (.ref 123), some (.int x3)] [] s := rfl
set_option maxRecDepth 1000000 in
theorem e_Z_law_1123 (scL : Nat) (scX : Nat → Int32) (k10 : Int32 → Mem → Option (Int32 × Mem))(n : Nat) (x3 : Int32) (s : Mem) : F_Z_law_1123 scL scX k10 (n + 1) x3 s = xs C_Z_law (fun k ls s => cbr (Nat.beq k 0) (A_Z_law (k10) ls s) (none)) scL scX K_Z_law 700 (K_Z_law.drop 1154) [some (.ref 1000), some (.ref 0), some (.ref 123), some (.int x3)] [] s := rfl
set_option maxRecDepth 1000000 in
theorem e_Z_law_1130 (scL : Nat) (scX : Nat → Int32) (k10 : Int32 → Mem → Option (Int32 × Mem))(n : Nat) (x3 : Int32) (s : Mem) : F_Z_law_1130 scL scX k10 (n + 1) x3 s = xs C_Z_law (fun k ls s => cbr (Nat.beq k 0) (A_Z_law (k10) ls s) (none)) scL scX K_Z_law 700 (K_Z_law.drop 1162) [some (.ref 1000), some (.ref 0), some (.ref 123), some (.int x3)] [] s := rfl
set_option maxRecDepth 1000000 in
theorem e_Z_law_1155 (scL : Nat) (scX : Nat → Int32) (k10 : Int32 → Mem → Option (Int32 × Mem))(n : Nat) (x3 : Int32) (s : Mem) : F_Z_law_1155 scL scX k10 (n + 1) x3 s = xs C_Z_law (fun k ls s => cbr (Nat.beq k 0) (A_Z_law (k10) ls s) (none)) scL scX K_Z_law 700 (K_Z_law.drop 1188) [some (.ref 1000), some (.ref 0), some (.ref 123), some (.int x3)] [] s := rfl
set_option maxRecDepth 1000000 in
theorem e_Z_law_10 (scL : Nat) (scX : Nat → Int32) (n : Nat) (x3 : Int32) (s : Mem) : F_Z_law_10 scL scX (n + 1) x3 s = xs C_Z_law (fun k ls s => cbr (Nat.beq k 0) (A_Z_law (F_Z_law_10 scL scX n) ls s) (cbr (Nat.beq k 1) (A_Z_law (F_Z_law_22 scL scX (F_Z_law_10 scL scX n) gF) ls s) (cbr (Nat.beq k 2) (A_Z_law (F_Z_law_39 scL scX (F_Z_law_10 scL scX n) gF) ls s) (cbr (Nat.beq k 3) (A_Z_law (F_Z_law_66 scL scX (F_Z_law_10 scL scX n) gF) ls s) (cbr (Nat.beq k 4) (A_Z_law (F_Z_law_113 scL scX (F_Z_law_10 scL scX n) gF) ls s) (cbr (Nat.beq k 5) (A_Z_law (F_Z_law_150 scL scX (F_Z_law_10 scL scX n) gF) ls s) (cbr (Nat.beq k 6) (A_Z_law (F_Z_law_205 scL scX (F_Z_law_10 scL scX n) gF) ls s) (cbr (Nat.beq k 7) (A_Z_law (F_Z_law_222 scL scX (F_Z_law_10 scL scX n) gF) ls s) (cbr (Nat.beq k 8) (A_Z_law (F_Z_law_279 scL scX (F_Z_law_10 scL scX n) gF) ls s) (cbr (Nat.beq k 9) (A_Z_law (F_Z_law_296 scL scX (F_Z_law_10 scL scX n) gF) ls s) (cbr (Nat.beq k 10) (A_Z_law (F_Z_law_313 scL scX (F_Z_law_10 scL scX n) gF) ls s) (cbr (Nat.beq k 11) (A_Z_law (F_Z_law_330 scL scX (F_Z_law_10 scL scX n) gF) ls s) (cbr (Nat.beq k 12) (A_Z_law (F_Z_law_367 scL scX (F_Z_law_10 scL scX n) gF) ls s) (cbr (Nat.beq k 13) (A_Z_law (F_Z_law_414 scL scX (F_Z_law_10 scL scX n) gF) ls s) (cbr (Nat.beq k 14) (A_Z_law (F_Z_law_461 scL scX (F_Z_law_10 scL scX n) gF) ls s) (cbr (Nat.beq k 15) (A_Z_law (F_Z_law_488 scL scX (F_Z_law_10 scL scX n) gF) ls s) (cbr (Nat.beq k 16) (A_Z_law (F_Z_law_515 scL scX (F_Z_law_10 scL scX n) gF) ls s) (cbr (Nat.beq k 17) (A_Z_law (F_Z_law_562 scL scX (F_Z_law_10 scL scX n) gF) ls s) (cbr (Nat.beq k 18) (A_Z_law (F_Z_law_589 scL scX (F_Z_law_10 scL scX n) gF) ls s) (cbr (Nat.beq k 19) (A_Z_law (F_Z_law_626 scL scX (F_Z_law_10 scL scX n) gF) ls s) (cbr (Nat.beq k 20) (A_Z_law (F_Z_law_663 scL scX (F_Z_law_10 scL scX n) gF) ls s) (cbr (Nat.beq k 21) (A_Z_law (F_Z_law_680 scL scX (F_Z_law_10 scL scX n) gF) ls s) (cbr (Nat.beq k 22) (A_Z_law (F_Z_law_697 scL scX (F_Z_law_10 scL scX n) gF) ls s) (cbr (Nat.beq k 23) (A_Z_law (F_Z_law_734 scL scX (F_Z_law_10 scL scX n) gF) ls s) (cbr (Nat.beq k 24) (A_Z_law (F_Z_law_761 scL scX (F_Z_law_10 scL scX n) gF) ls s) (cbr (Nat.beq k 25) (A_Z_law (F_Z_law_778 scL scX (F_Z_law_10 scL scX n) gF) ls s) (cbr (Nat.beq k 26) (A_Z_law (F_Z_law_805 scL scX (F_Z_law_10 scL scX n) gF) ls s) (cbr (Nat.beq k 27) (A_Z_law (F_Z_law_832 scL scX (F_Z_law_10 scL scX n) gF) ls s) (cbr (Nat.beq k 28) (A_Z_law (F_Z_law_859 scL scX (F_Z_law_10 scL scX n) gF) ls s) (cbr (Nat.beq k 29) (A_Z_law (F_Z_law_886 scL scX (F_Z_law_10 scL scX n) gF) ls s) (cbr (Nat.beq k 30) (A_Z_law (F_Z_law_903 scL scX (F_Z_law_10 scL scX n) gF) ls s) (cbr (Nat.beq k 31) (A_Z_law (F_Z_law_920 scL scX (F_Z_law_10 scL scX n) gF) ls s) (cbr (Nat.beq k 32) (A_Z_law (F_Z_law_937 scL scX (F_Z_law_10 scL scX n) gF) ls s) (cbr (Nat.beq k 33) (A_Z_law (F_Z_law_964 scL scX (F_Z_law_10 scL scX n) gF) ls s) (cbr (Nat.beq k 34) (A_Z_law (F_Z_law_981 scL scX (F_Z_law_10 scL scX n) gF) ls s) (cbr (Nat.beq k 35) (A_Z_law (F_Z_law_1008 scL scX (F_Z_law_10 scL scX n) gF) ls s) (cbr (Nat.beq k 36) (A_Z_law (F_Z_law_1045 scL scX (F_Z_law_10 scL scX n) gF) ls s) (cbr (Nat.beq k 37) (A_Z_law (F_Z_law_1062 scL scX (F_Z_law_10 scL scX n) gF) ls s) (cbr (Nat.beq k 38) (A_Z_law (F_Z_law_1079 scL scX (F_Z_law_10 scL scX n) gF) ls s) (cbr (Nat.beq k 39) (A_Z_law (F_Z_law_1106 scL scX (F_Z_law_10 scL scX n) gF) ls s) (cbr (Nat.beq k 40) (A_Z_law (F_Z_law_1123 scL scX (F_Z_law_10 scL scX n) gF) ls s) (cbr (Nat.beq k 41) (A_Z_law (F_Z_law_1130 scL scX (F_Z_law_10 scL scX n) gF) ls s) (cbr (Nat.beq k 42) (A_Z_law (F_Z_law_1155 scL scX (F_Z_law_10 scL scX n) gF) ls s) (none)))))))))))))))))))))))))))))))))))))))))))) scL scX K_Z_law 700 (K_Z_law.drop 1) [some (.ref 1000), some (.ref 0), some (.ref 123), some (.int x3)] [] s := rfl
def okS (own nl : Nat) (bt : ByteArray) (rt : Option FieldType) (kps : List Nat) (cd : MC) : Nat → MC → Bool
  | 0, _ => true
  | _ + 1, [] => true
  | n + 1, q :: r => okI own nl bt rt kps cd q r && okS own nl bt rt kps cd n r
theorem okS_t {own nl : Nat} {bt : ByteArray} {rt : Option FieldType} {kps : List Nat} {cd : MC} : ∀ (n : Nat) (r : MC), okS own nl bt rt kps cd n r = true → okC own nl bt rt kps cd (r.drop n) = true → okC own nl bt rt kps cd r = true
  | 0, _, _, h => h
  | _ + 1, [], _, _ => rfl
  | n + 1, q :: r, h, h2 => by
    simp only [okS, Bool.and_eq_true] at h
    simp only [okC, Bool.and_eq_true]
    exact ⟨h.1, okS_t n r h.2 h2⟩
set_option maxRecDepth 1000000 in
theorem kS_Z_law_0 : okS 16 4 code (some .boolean) [18, 216, 239, 272, 325, 368, 437, 460, 523, 546, 569, 592, 635, 688, 741, 774, 807, 860, 893, 936, 979, 1002, 1025, 1068, 1101, 1124, 1157, 1190, 1223, 1256, 1279, 1302, 1325, 1358, 1381, 1414, 1457, 1480, 1503, 1536, 1559, 1572, 1611] K_Z_law 24 (K_Z_law.drop 0) = true := by decide +kernel
set_option maxRecDepth 1000000 in
theorem kS_Z_law_24 : okS 16 4 code (some .boolean) [18, 216, 239, 272, 325, 368, 437, 460, 523, 546, 569, 592, 635, 688, 741, 774, 807, 860, 893, 936, 979, 1002, 1025, 1068, 1101, 1124, 1157, 1190, 1223, 1256, 1279, 1302, 1325, 1358, 1381, 1414, 1457, 1480, 1503, 1536, 1559, 1572, 1611] K_Z_law 24 (K_Z_law.drop 24) = true := by decide +kernel
set_option maxRecDepth 1000000 in
theorem kS_Z_law_48 : okS 16 4 code (some .boolean) [18, 216, 239, 272, 325, 368, 437, 460, 523, 546, 569, 592, 635, 688, 741, 774, 807, 860, 893, 936, 979, 1002, 1025, 1068, 1101, 1124, 1157, 1190, 1223, 1256, 1279, 1302, 1325, 1358, 1381, 1414, 1457, 1480, 1503, 1536, 1559, 1572, 1611] K_Z_law 24 (K_Z_law.drop 48) = true := by decide +kernel
set_option maxRecDepth 1000000 in
theorem kS_Z_law_72 : okS 16 4 code (some .boolean) [18, 216, 239, 272, 325, 368, 437, 460, 523, 546, 569, 592, 635, 688, 741, 774, 807, 860, 893, 936, 979, 1002, 1025, 1068, 1101, 1124, 1157, 1190, 1223, 1256, 1279, 1302, 1325, 1358, 1381, 1414, 1457, 1480, 1503, 1536, 1559, 1572, 1611] K_Z_law 24 (K_Z_law.drop 72) = true := by decide +kernel
set_option maxRecDepth 1000000 in
theorem kS_Z_law_96 : okS 16 4 code (some .boolean) [18, 216, 239, 272, 325, 368, 437, 460, 523, 546, 569, 592, 635, 688, 741, 774, 807, 860, 893, 936, 979, 1002, 1025, 1068, 1101, 1124, 1157, 1190, 1223, 1256, 1279, 1302, 1325, 1358, 1381, 1414, 1457, 1480, 1503, 1536, 1559, 1572, 1611] K_Z_law 24 (K_Z_law.drop 96) = true := by decide +kernel
set_option maxRecDepth 1000000 in
theorem kS_Z_law_120 : okS 16 4 code (some .boolean) [18, 216, 239, 272, 325, 368, 437, 460, 523, 546, 569, 592, 635, 688, 741, 774, 807, 860, 893, 936, 979, 1002, 1025, 1068, 1101, 1124, 1157, 1190, 1223, 1256, 1279, 1302, 1325, 1358, 1381, 1414, 1457, 1480, 1503, 1536, 1559, 1572, 1611] K_Z_law 24 (K_Z_law.drop 120) = true := by decide +kernel
set_option maxRecDepth 1000000 in
theorem kS_Z_law_144 : okS 16 4 code (some .boolean) [18, 216, 239, 272, 325, 368, 437, 460, 523, 546, 569, 592, 635, 688, 741, 774, 807, 860, 893, 936, 979, 1002, 1025, 1068, 1101, 1124, 1157, 1190, 1223, 1256, 1279, 1302, 1325, 1358, 1381, 1414, 1457, 1480, 1503, 1536, 1559, 1572, 1611] K_Z_law 24 (K_Z_law.drop 144) = true := by decide +kernel
set_option maxRecDepth 1000000 in
theorem kS_Z_law_168 : okS 16 4 code (some .boolean) [18, 216, 239, 272, 325, 368, 437, 460, 523, 546, 569, 592, 635, 688, 741, 774, 807, 860, 893, 936, 979, 1002, 1025, 1068, 1101, 1124, 1157, 1190, 1223, 1256, 1279, 1302, 1325, 1358, 1381, 1414, 1457, 1480, 1503, 1536, 1559, 1572, 1611] K_Z_law 24 (K_Z_law.drop 168) = true := by decide +kernel
set_option maxRecDepth 1000000 in
theorem kS_Z_law_192 : okS 16 4 code (some .boolean) [18, 216, 239, 272, 325, 368, 437, 460, 523, 546, 569, 592, 635, 688, 741, 774, 807, 860, 893, 936, 979, 1002, 1025, 1068, 1101, 1124, 1157, 1190, 1223, 1256, 1279, 1302, 1325, 1358, 1381, 1414, 1457, 1480, 1503, 1536, 1559, 1572, 1611] K_Z_law 24 (K_Z_law.drop 192) = true := by decide +kernel
set_option maxRecDepth 1000000 in
theorem kS_Z_law_216 : okS 16 4 code (some .boolean) [18, 216, 239, 272, 325, 368, 437, 460, 523, 546, 569, 592, 635, 688, 741, 774, 807, 860, 893, 936, 979, 1002, 1025, 1068, 1101, 1124, 1157, 1190, 1223, 1256, 1279, 1302, 1325, 1358, 1381, 1414, 1457, 1480, 1503, 1536, 1559, 1572, 1611] K_Z_law 24 (K_Z_law.drop 216) = true := by decide +kernel
set_option maxRecDepth 1000000 in
theorem kS_Z_law_240 : okS 16 4 code (some .boolean) [18, 216, 239, 272, 325, 368, 437, 460, 523, 546, 569, 592, 635, 688, 741, 774, 807, 860, 893, 936, 979, 1002, 1025, 1068, 1101, 1124, 1157, 1190, 1223, 1256, 1279, 1302, 1325, 1358, 1381, 1414, 1457, 1480, 1503, 1536, 1559, 1572, 1611] K_Z_law 24 (K_Z_law.drop 240) = true := by decide +kernel
set_option maxRecDepth 1000000 in
theorem kS_Z_law_264 : okS 16 4 code (some .boolean) [18, 216, 239, 272, 325, 368, 437, 460, 523, 546, 569, 592, 635, 688, 741, 774, 807, 860, 893, 936, 979, 1002, 1025, 1068, 1101, 1124, 1157, 1190, 1223, 1256, 1279, 1302, 1325, 1358, 1381, 1414, 1457, 1480, 1503, 1536, 1559, 1572, 1611] K_Z_law 24 (K_Z_law.drop 264) = true := by decide +kernel
set_option maxRecDepth 1000000 in
theorem kS_Z_law_288 : okS 16 4 code (some .boolean) [18, 216, 239, 272, 325, 368, 437, 460, 523, 546, 569, 592, 635, 688, 741, 774, 807, 860, 893, 936, 979, 1002, 1025, 1068, 1101, 1124, 1157, 1190, 1223, 1256, 1279, 1302, 1325, 1358, 1381, 1414, 1457, 1480, 1503, 1536, 1559, 1572, 1611] K_Z_law 24 (K_Z_law.drop 288) = true := by decide +kernel
set_option maxRecDepth 1000000 in
theorem kS_Z_law_312 : okS 16 4 code (some .boolean) [18, 216, 239, 272, 325, 368, 437, 460, 523, 546, 569, 592, 635, 688, 741, 774, 807, 860, 893, 936, 979, 1002, 1025, 1068, 1101, 1124, 1157, 1190, 1223, 1256, 1279, 1302, 1325, 1358, 1381, 1414, 1457, 1480, 1503, 1536, 1559, 1572, 1611] K_Z_law 24 (K_Z_law.drop 312) = true := by decide +kernel
set_option maxRecDepth 1000000 in
theorem kS_Z_law_336 : okS 16 4 code (some .boolean) [18, 216, 239, 272, 325, 368, 437, 460, 523, 546, 569, 592, 635, 688, 741, 774, 807, 860, 893, 936, 979, 1002, 1025, 1068, 1101, 1124, 1157, 1190, 1223, 1256, 1279, 1302, 1325, 1358, 1381, 1414, 1457, 1480, 1503, 1536, 1559, 1572, 1611] K_Z_law 24 (K_Z_law.drop 336) = true := by decide +kernel
set_option maxRecDepth 1000000 in
theorem kS_Z_law_360 : okS 16 4 code (some .boolean) [18, 216, 239, 272, 325, 368, 437, 460, 523, 546, 569, 592, 635, 688, 741, 774, 807, 860, 893, 936, 979, 1002, 1025, 1068, 1101, 1124, 1157, 1190, 1223, 1256, 1279, 1302, 1325, 1358, 1381, 1414, 1457, 1480, 1503, 1536, 1559, 1572, 1611] K_Z_law 24 (K_Z_law.drop 360) = true := by decide +kernel
set_option maxRecDepth 1000000 in
theorem kS_Z_law_384 : okS 16 4 code (some .boolean) [18, 216, 239, 272, 325, 368, 437, 460, 523, 546, 569, 592, 635, 688, 741, 774, 807, 860, 893, 936, 979, 1002, 1025, 1068, 1101, 1124, 1157, 1190, 1223, 1256, 1279, 1302, 1325, 1358, 1381, 1414, 1457, 1480, 1503, 1536, 1559, 1572, 1611] K_Z_law 24 (K_Z_law.drop 384) = true := by decide +kernel
set_option maxRecDepth 1000000 in
theorem kS_Z_law_408 : okS 16 4 code (some .boolean) [18, 216, 239, 272, 325, 368, 437, 460, 523, 546, 569, 592, 635, 688, 741, 774, 807, 860, 893, 936, 979, 1002, 1025, 1068, 1101, 1124, 1157, 1190, 1223, 1256, 1279, 1302, 1325, 1358, 1381, 1414, 1457, 1480, 1503, 1536, 1559, 1572, 1611] K_Z_law 24 (K_Z_law.drop 408) = true := by decide +kernel
set_option maxRecDepth 1000000 in
theorem kS_Z_law_432 : okS 16 4 code (some .boolean) [18, 216, 239, 272, 325, 368, 437, 460, 523, 546, 569, 592, 635, 688, 741, 774, 807, 860, 893, 936, 979, 1002, 1025, 1068, 1101, 1124, 1157, 1190, 1223, 1256, 1279, 1302, 1325, 1358, 1381, 1414, 1457, 1480, 1503, 1536, 1559, 1572, 1611] K_Z_law 24 (K_Z_law.drop 432) = true := by decide +kernel
set_option maxRecDepth 1000000 in
theorem kS_Z_law_456 : okS 16 4 code (some .boolean) [18, 216, 239, 272, 325, 368, 437, 460, 523, 546, 569, 592, 635, 688, 741, 774, 807, 860, 893, 936, 979, 1002, 1025, 1068, 1101, 1124, 1157, 1190, 1223, 1256, 1279, 1302, 1325, 1358, 1381, 1414, 1457, 1480, 1503, 1536, 1559, 1572, 1611] K_Z_law 24 (K_Z_law.drop 456) = true := by decide +kernel
set_option maxRecDepth 1000000 in
theorem kS_Z_law_480 : okS 16 4 code (some .boolean) [18, 216, 239, 272, 325, 368, 437, 460, 523, 546, 569, 592, 635, 688, 741, 774, 807, 860, 893, 936, 979, 1002, 1025, 1068, 1101, 1124, 1157, 1190, 1223, 1256, 1279, 1302, 1325, 1358, 1381, 1414, 1457, 1480, 1503, 1536, 1559, 1572, 1611] K_Z_law 24 (K_Z_law.drop 480) = true := by decide +kernel
set_option maxRecDepth 1000000 in
theorem kS_Z_law_504 : okS 16 4 code (some .boolean) [18, 216, 239, 272, 325, 368, 437, 460, 523, 546, 569, 592, 635, 688, 741, 774, 807, 860, 893, 936, 979, 1002, 1025, 1068, 1101, 1124, 1157, 1190, 1223, 1256, 1279, 1302, 1325, 1358, 1381, 1414, 1457, 1480, 1503, 1536, 1559, 1572, 1611] K_Z_law 24 (K_Z_law.drop 504) = true := by decide +kernel
set_option maxRecDepth 1000000 in
theorem kS_Z_law_528 : okS 16 4 code (some .boolean) [18, 216, 239, 272, 325, 368, 437, 460, 523, 546, 569, 592, 635, 688, 741, 774, 807, 860, 893, 936, 979, 1002, 1025, 1068, 1101, 1124, 1157, 1190, 1223, 1256, 1279, 1302, 1325, 1358, 1381, 1414, 1457, 1480, 1503, 1536, 1559, 1572, 1611] K_Z_law 24 (K_Z_law.drop 528) = true := by decide +kernel
set_option maxRecDepth 1000000 in
theorem kS_Z_law_552 : okS 16 4 code (some .boolean) [18, 216, 239, 272, 325, 368, 437, 460, 523, 546, 569, 592, 635, 688, 741, 774, 807, 860, 893, 936, 979, 1002, 1025, 1068, 1101, 1124, 1157, 1190, 1223, 1256, 1279, 1302, 1325, 1358, 1381, 1414, 1457, 1480, 1503, 1536, 1559, 1572, 1611] K_Z_law 24 (K_Z_law.drop 552) = true := by decide +kernel
set_option maxRecDepth 1000000 in
theorem kS_Z_law_576 : okS 16 4 code (some .boolean) [18, 216, 239, 272, 325, 368, 437, 460, 523, 546, 569, 592, 635, 688, 741, 774, 807, 860, 893, 936, 979, 1002, 1025, 1068, 1101, 1124, 1157, 1190, 1223, 1256, 1279, 1302, 1325, 1358, 1381, 1414, 1457, 1480, 1503, 1536, 1559, 1572, 1611] K_Z_law 24 (K_Z_law.drop 576) = true := by decide +kernel
set_option maxRecDepth 1000000 in
theorem kS_Z_law_600 : okS 16 4 code (some .boolean) [18, 216, 239, 272, 325, 368, 437, 460, 523, 546, 569, 592, 635, 688, 741, 774, 807, 860, 893, 936, 979, 1002, 1025, 1068, 1101, 1124, 1157, 1190, 1223, 1256, 1279, 1302, 1325, 1358, 1381, 1414, 1457, 1480, 1503, 1536, 1559, 1572, 1611] K_Z_law 24 (K_Z_law.drop 600) = true := by decide +kernel
set_option maxRecDepth 1000000 in
theorem kS_Z_law_624 : okS 16 4 code (some .boolean) [18, 216, 239, 272, 325, 368, 437, 460, 523, 546, 569, 592, 635, 688, 741, 774, 807, 860, 893, 936, 979, 1002, 1025, 1068, 1101, 1124, 1157, 1190, 1223, 1256, 1279, 1302, 1325, 1358, 1381, 1414, 1457, 1480, 1503, 1536, 1559, 1572, 1611] K_Z_law 24 (K_Z_law.drop 624) = true := by decide +kernel
set_option maxRecDepth 1000000 in
theorem kS_Z_law_648 : okS 16 4 code (some .boolean) [18, 216, 239, 272, 325, 368, 437, 460, 523, 546, 569, 592, 635, 688, 741, 774, 807, 860, 893, 936, 979, 1002, 1025, 1068, 1101, 1124, 1157, 1190, 1223, 1256, 1279, 1302, 1325, 1358, 1381, 1414, 1457, 1480, 1503, 1536, 1559, 1572, 1611] K_Z_law 24 (K_Z_law.drop 648) = true := by decide +kernel
set_option maxRecDepth 1000000 in
theorem kS_Z_law_672 : okS 16 4 code (some .boolean) [18, 216, 239, 272, 325, 368, 437, 460, 523, 546, 569, 592, 635, 688, 741, 774, 807, 860, 893, 936, 979, 1002, 1025, 1068, 1101, 1124, 1157, 1190, 1223, 1256, 1279, 1302, 1325, 1358, 1381, 1414, 1457, 1480, 1503, 1536, 1559, 1572, 1611] K_Z_law 24 (K_Z_law.drop 672) = true := by decide +kernel
set_option maxRecDepth 1000000 in
theorem kS_Z_law_696 : okS 16 4 code (some .boolean) [18, 216, 239, 272, 325, 368, 437, 460, 523, 546, 569, 592, 635, 688, 741, 774, 807, 860, 893, 936, 979, 1002, 1025, 1068, 1101, 1124, 1157, 1190, 1223, 1256, 1279, 1302, 1325, 1358, 1381, 1414, 1457, 1480, 1503, 1536, 1559, 1572, 1611] K_Z_law 24 (K_Z_law.drop 696) = true := by decide +kernel
set_option maxRecDepth 1000000 in
theorem kS_Z_law_720 : okS 16 4 code (some .boolean) [18, 216, 239, 272, 325, 368, 437, 460, 523, 546, 569, 592, 635, 688, 741, 774, 807, 860, 893, 936, 979, 1002, 1025, 1068, 1101, 1124, 1157, 1190, 1223, 1256, 1279, 1302, 1325, 1358, 1381, 1414, 1457, 1480, 1503, 1536, 1559, 1572, 1611] K_Z_law 24 (K_Z_law.drop 720) = true := by decide +kernel
set_option maxRecDepth 1000000 in
theorem kS_Z_law_744 : okS 16 4 code (some .boolean) [18, 216, 239, 272, 325, 368, 437, 460, 523, 546, 569, 592, 635, 688, 741, 774, 807, 860, 893, 936, 979, 1002, 1025, 1068, 1101, 1124, 1157, 1190, 1223, 1256, 1279, 1302, 1325, 1358, 1381, 1414, 1457, 1480, 1503, 1536, 1559, 1572, 1611] K_Z_law 24 (K_Z_law.drop 744) = true := by decide +kernel
set_option maxRecDepth 1000000 in
theorem kS_Z_law_768 : okS 16 4 code (some .boolean) [18, 216, 239, 272, 325, 368, 437, 460, 523, 546, 569, 592, 635, 688, 741, 774, 807, 860, 893, 936, 979, 1002, 1025, 1068, 1101, 1124, 1157, 1190, 1223, 1256, 1279, 1302, 1325, 1358, 1381, 1414, 1457, 1480, 1503, 1536, 1559, 1572, 1611] K_Z_law 24 (K_Z_law.drop 768) = true := by decide +kernel
set_option maxRecDepth 1000000 in
theorem kS_Z_law_792 : okS 16 4 code (some .boolean) [18, 216, 239, 272, 325, 368, 437, 460, 523, 546, 569, 592, 635, 688, 741, 774, 807, 860, 893, 936, 979, 1002, 1025, 1068, 1101, 1124, 1157, 1190, 1223, 1256, 1279, 1302, 1325, 1358, 1381, 1414, 1457, 1480, 1503, 1536, 1559, 1572, 1611] K_Z_law 24 (K_Z_law.drop 792) = true := by decide +kernel
set_option maxRecDepth 1000000 in
theorem kS_Z_law_816 : okS 16 4 code (some .boolean) [18, 216, 239, 272, 325, 368, 437, 460, 523, 546, 569, 592, 635, 688, 741, 774, 807, 860, 893, 936, 979, 1002, 1025, 1068, 1101, 1124, 1157, 1190, 1223, 1256, 1279, 1302, 1325, 1358, 1381, 1414, 1457, 1480, 1503, 1536, 1559, 1572, 1611] K_Z_law 24 (K_Z_law.drop 816) = true := by decide +kernel
set_option maxRecDepth 1000000 in
theorem kS_Z_law_840 : okS 16 4 code (some .boolean) [18, 216, 239, 272, 325, 368, 437, 460, 523, 546, 569, 592, 635, 688, 741, 774, 807, 860, 893, 936, 979, 1002, 1025, 1068, 1101, 1124, 1157, 1190, 1223, 1256, 1279, 1302, 1325, 1358, 1381, 1414, 1457, 1480, 1503, 1536, 1559, 1572, 1611] K_Z_law 24 (K_Z_law.drop 840) = true := by decide +kernel
set_option maxRecDepth 1000000 in
theorem kS_Z_law_864 : okS 16 4 code (some .boolean) [18, 216, 239, 272, 325, 368, 437, 460, 523, 546, 569, 592, 635, 688, 741, 774, 807, 860, 893, 936, 979, 1002, 1025, 1068, 1101, 1124, 1157, 1190, 1223, 1256, 1279, 1302, 1325, 1358, 1381, 1414, 1457, 1480, 1503, 1536, 1559, 1572, 1611] K_Z_law 24 (K_Z_law.drop 864) = true := by decide +kernel
set_option maxRecDepth 1000000 in
theorem kS_Z_law_888 : okS 16 4 code (some .boolean) [18, 216, 239, 272, 325, 368, 437, 460, 523, 546, 569, 592, 635, 688, 741, 774, 807, 860, 893, 936, 979, 1002, 1025, 1068, 1101, 1124, 1157, 1190, 1223, 1256, 1279, 1302, 1325, 1358, 1381, 1414, 1457, 1480, 1503, 1536, 1559, 1572, 1611] K_Z_law 24 (K_Z_law.drop 888) = true := by decide +kernel
set_option maxRecDepth 1000000 in
theorem kS_Z_law_912 : okS 16 4 code (some .boolean) [18, 216, 239, 272, 325, 368, 437, 460, 523, 546, 569, 592, 635, 688, 741, 774, 807, 860, 893, 936, 979, 1002, 1025, 1068, 1101, 1124, 1157, 1190, 1223, 1256, 1279, 1302, 1325, 1358, 1381, 1414, 1457, 1480, 1503, 1536, 1559, 1572, 1611] K_Z_law 24 (K_Z_law.drop 912) = true := by decide +kernel
set_option maxRecDepth 1000000 in
theorem kS_Z_law_936 : okS 16 4 code (some .boolean) [18, 216, 239, 272, 325, 368, 437, 460, 523, 546, 569, 592, 635, 688, 741, 774, 807, 860, 893, 936, 979, 1002, 1025, 1068, 1101, 1124, 1157, 1190, 1223, 1256, 1279, 1302, 1325, 1358, 1381, 1414, 1457, 1480, 1503, 1536, 1559, 1572, 1611] K_Z_law 24 (K_Z_law.drop 936) = true := by decide +kernel
set_option maxRecDepth 1000000 in
theorem kS_Z_law_960 : okS 16 4 code (some .boolean) [18, 216, 239, 272, 325, 368, 437, 460, 523, 546, 569, 592, 635, 688, 741, 774, 807, 860, 893, 936, 979, 1002, 1025, 1068, 1101, 1124, 1157, 1190, 1223, 1256, 1279, 1302, 1325, 1358, 1381, 1414, 1457, 1480, 1503, 1536, 1559, 1572, 1611] K_Z_law 24 (K_Z_law.drop 960) = true := by decide +kernel
set_option maxRecDepth 1000000 in
theorem kS_Z_law_984 : okS 16 4 code (some .boolean) [18, 216, 239, 272, 325, 368, 437, 460, 523, 546, 569, 592, 635, 688, 741, 774, 807, 860, 893, 936, 979, 1002, 1025, 1068, 1101, 1124, 1157, 1190, 1223, 1256, 1279, 1302, 1325, 1358, 1381, 1414, 1457, 1480, 1503, 1536, 1559, 1572, 1611] K_Z_law 24 (K_Z_law.drop 984) = true := by decide +kernel
set_option maxRecDepth 1000000 in
theorem kS_Z_law_1008 : okS 16 4 code (some .boolean) [18, 216, 239, 272, 325, 368, 437, 460, 523, 546, 569, 592, 635, 688, 741, 774, 807, 860, 893, 936, 979, 1002, 1025, 1068, 1101, 1124, 1157, 1190, 1223, 1256, 1279, 1302, 1325, 1358, 1381, 1414, 1457, 1480, 1503, 1536, 1559, 1572, 1611] K_Z_law 24 (K_Z_law.drop 1008) = true := by decide +kernel
set_option maxRecDepth 1000000 in
theorem kS_Z_law_1032 : okS 16 4 code (some .boolean) [18, 216, 239, 272, 325, 368, 437, 460, 523, 546, 569, 592, 635, 688, 741, 774, 807, 860, 893, 936, 979, 1002, 1025, 1068, 1101, 1124, 1157, 1190, 1223, 1256, 1279, 1302, 1325, 1358, 1381, 1414, 1457, 1480, 1503, 1536, 1559, 1572, 1611] K_Z_law 24 (K_Z_law.drop 1032) = true := by decide +kernel
set_option maxRecDepth 1000000 in
theorem kS_Z_law_1056 : okS 16 4 code (some .boolean) [18, 216, 239, 272, 325, 368, 437, 460, 523, 546, 569, 592, 635, 688, 741, 774, 807, 860, 893, 936, 979, 1002, 1025, 1068, 1101, 1124, 1157, 1190, 1223, 1256, 1279, 1302, 1325, 1358, 1381, 1414, 1457, 1480, 1503, 1536, 1559, 1572, 1611] K_Z_law 24 (K_Z_law.drop 1056) = true := by decide +kernel
set_option maxRecDepth 1000000 in
theorem kS_Z_law_1080 : okS 16 4 code (some .boolean) [18, 216, 239, 272, 325, 368, 437, 460, 523, 546, 569, 592, 635, 688, 741, 774, 807, 860, 893, 936, 979, 1002, 1025, 1068, 1101, 1124, 1157, 1190, 1223, 1256, 1279, 1302, 1325, 1358, 1381, 1414, 1457, 1480, 1503, 1536, 1559, 1572, 1611] K_Z_law 24 (K_Z_law.drop 1080) = true := by decide +kernel
set_option maxRecDepth 1000000 in
theorem kS_Z_law_1104 : okS 16 4 code (some .boolean) [18, 216, 239, 272, 325, 368, 437, 460, 523, 546, 569, 592, 635, 688, 741, 774, 807, 860, 893, 936, 979, 1002, 1025, 1068, 1101, 1124, 1157, 1190, 1223, 1256, 1279, 1302, 1325, 1358, 1381, 1414, 1457, 1480, 1503, 1536, 1559, 1572, 1611] K_Z_law 24 (K_Z_law.drop 1104) = true := by decide +kernel
set_option maxRecDepth 1000000 in
theorem kS_Z_law_1128 : okS 16 4 code (some .boolean) [18, 216, 239, 272, 325, 368, 437, 460, 523, 546, 569, 592, 635, 688, 741, 774, 807, 860, 893, 936, 979, 1002, 1025, 1068, 1101, 1124, 1157, 1190, 1223, 1256, 1279, 1302, 1325, 1358, 1381, 1414, 1457, 1480, 1503, 1536, 1559, 1572, 1611] K_Z_law 24 (K_Z_law.drop 1128) = true := by decide +kernel
set_option maxRecDepth 1000000 in
theorem kS_Z_law_1152 : okS 16 4 code (some .boolean) [18, 216, 239, 272, 325, 368, 437, 460, 523, 546, 569, 592, 635, 688, 741, 774, 807, 860, 893, 936, 979, 1002, 1025, 1068, 1101, 1124, 1157, 1190, 1223, 1256, 1279, 1302, 1325, 1358, 1381, 1414, 1457, 1480, 1503, 1536, 1559, 1572, 1611] K_Z_law 24 (K_Z_law.drop 1152) = true := by decide +kernel
set_option maxRecDepth 1000000 in
theorem kS_Z_law_1176 : okS 16 4 code (some .boolean) [18, 216, 239, 272, 325, 368, 437, 460, 523, 546, 569, 592, 635, 688, 741, 774, 807, 860, 893, 936, 979, 1002, 1025, 1068, 1101, 1124, 1157, 1190, 1223, 1256, 1279, 1302, 1325, 1358, 1381, 1414, 1457, 1480, 1503, 1536, 1559, 1572, 1611] K_Z_law 24 (K_Z_law.drop 1176) = true := by decide +kernel
set_option maxRecDepth 1000000 in
theorem kS_Z_law_1200 : okS 16 4 code (some .boolean) [18, 216, 239, 272, 325, 368, 437, 460, 523, 546, 569, 592, 635, 688, 741, 774, 807, 860, 893, 936, 979, 1002, 1025, 1068, 1101, 1124, 1157, 1190, 1223, 1256, 1279, 1302, 1325, 1358, 1381, 1414, 1457, 1480, 1503, 1536, 1559, 1572, 1611] K_Z_law 9 (K_Z_law.drop 1200) = true := by decide +kernel
theorem k_Z_law : okC 16 4 code (some .boolean) [18, 216, 239, 272, 325, 368, 437, 460, 523, 546, 569, 592, 635, 688, 741, 774, 807, 860, 893, 936, 979, 1002, 1025, 1068, 1101, 1124, 1157, 1190, 1223, 1256, 1279, 1302, 1325, 1358, 1381, 1414, 1457, 1480, 1503, 1536, 1559, 1572, 1611] K_Z_law K_Z_law = true := by
  have h1209 : okC 16 4 code (some .boolean) [18, 216, 239, 272, 325, 368, 437, 460, 523, 546, 569, 592, 635, 688, 741, 774, 807, 860, 893, 936, 979, 1002, 1025, 1068, 1101, 1124, 1157, 1190, 1223, 1256, 1279, 1302, 1325, 1358, 1381, 1414, 1457, 1480, 1503, 1536, 1559, 1572, 1611] K_Z_law (K_Z_law.drop 1209) = true := by
    rw [show K_Z_law.drop 1209 = [] from List.drop_eq_nil_iff.mpr (by decide +kernel)]
    rfl
  have h1200 := okS_t 9 (K_Z_law.drop 1200) kS_Z_law_1200 (by rw [List.drop_drop]; exact h1209)
  have h1176 := okS_t 24 (K_Z_law.drop 1176) kS_Z_law_1176 (by rw [List.drop_drop]; exact h1200)
  have h1152 := okS_t 24 (K_Z_law.drop 1152) kS_Z_law_1152 (by rw [List.drop_drop]; exact h1176)
  have h1128 := okS_t 24 (K_Z_law.drop 1128) kS_Z_law_1128 (by rw [List.drop_drop]; exact h1152)
  have h1104 := okS_t 24 (K_Z_law.drop 1104) kS_Z_law_1104 (by rw [List.drop_drop]; exact h1128)
  have h1080 := okS_t 24 (K_Z_law.drop 1080) kS_Z_law_1080 (by rw [List.drop_drop]; exact h1104)
  have h1056 := okS_t 24 (K_Z_law.drop 1056) kS_Z_law_1056 (by rw [List.drop_drop]; exact h1080)
  have h1032 := okS_t 24 (K_Z_law.drop 1032) kS_Z_law_1032 (by rw [List.drop_drop]; exact h1056)
  have h1008 := okS_t 24 (K_Z_law.drop 1008) kS_Z_law_1008 (by rw [List.drop_drop]; exact h1032)
  have h984 := okS_t 24 (K_Z_law.drop 984) kS_Z_law_984 (by rw [List.drop_drop]; exact h1008)
  have h960 := okS_t 24 (K_Z_law.drop 960) kS_Z_law_960 (by rw [List.drop_drop]; exact h984)
  have h936 := okS_t 24 (K_Z_law.drop 936) kS_Z_law_936 (by rw [List.drop_drop]; exact h960)
  have h912 := okS_t 24 (K_Z_law.drop 912) kS_Z_law_912 (by rw [List.drop_drop]; exact h936)
  have h888 := okS_t 24 (K_Z_law.drop 888) kS_Z_law_888 (by rw [List.drop_drop]; exact h912)
  have h864 := okS_t 24 (K_Z_law.drop 864) kS_Z_law_864 (by rw [List.drop_drop]; exact h888)
  have h840 := okS_t 24 (K_Z_law.drop 840) kS_Z_law_840 (by rw [List.drop_drop]; exact h864)
  have h816 := okS_t 24 (K_Z_law.drop 816) kS_Z_law_816 (by rw [List.drop_drop]; exact h840)
  have h792 := okS_t 24 (K_Z_law.drop 792) kS_Z_law_792 (by rw [List.drop_drop]; exact h816)
  have h768 := okS_t 24 (K_Z_law.drop 768) kS_Z_law_768 (by rw [List.drop_drop]; exact h792)
  have h744 := okS_t 24 (K_Z_law.drop 744) kS_Z_law_744 (by rw [List.drop_drop]; exact h768)
  have h720 := okS_t 24 (K_Z_law.drop 720) kS_Z_law_720 (by rw [List.drop_drop]; exact h744)
  have h696 := okS_t 24 (K_Z_law.drop 696) kS_Z_law_696 (by rw [List.drop_drop]; exact h720)
  have h672 := okS_t 24 (K_Z_law.drop 672) kS_Z_law_672 (by rw [List.drop_drop]; exact h696)
  have h648 := okS_t 24 (K_Z_law.drop 648) kS_Z_law_648 (by rw [List.drop_drop]; exact h672)
  have h624 := okS_t 24 (K_Z_law.drop 624) kS_Z_law_624 (by rw [List.drop_drop]; exact h648)
  have h600 := okS_t 24 (K_Z_law.drop 600) kS_Z_law_600 (by rw [List.drop_drop]; exact h624)
  have h576 := okS_t 24 (K_Z_law.drop 576) kS_Z_law_576 (by rw [List.drop_drop]; exact h600)
  have h552 := okS_t 24 (K_Z_law.drop 552) kS_Z_law_552 (by rw [List.drop_drop]; exact h576)
  have h528 := okS_t 24 (K_Z_law.drop 528) kS_Z_law_528 (by rw [List.drop_drop]; exact h552)
  have h504 := okS_t 24 (K_Z_law.drop 504) kS_Z_law_504 (by rw [List.drop_drop]; exact h528)
  have h480 := okS_t 24 (K_Z_law.drop 480) kS_Z_law_480 (by rw [List.drop_drop]; exact h504)
  have h456 := okS_t 24 (K_Z_law.drop 456) kS_Z_law_456 (by rw [List.drop_drop]; exact h480)
  have h432 := okS_t 24 (K_Z_law.drop 432) kS_Z_law_432 (by rw [List.drop_drop]; exact h456)
  have h408 := okS_t 24 (K_Z_law.drop 408) kS_Z_law_408 (by rw [List.drop_drop]; exact h432)
  have h384 := okS_t 24 (K_Z_law.drop 384) kS_Z_law_384 (by rw [List.drop_drop]; exact h408)
  have h360 := okS_t 24 (K_Z_law.drop 360) kS_Z_law_360 (by rw [List.drop_drop]; exact h384)
  have h336 := okS_t 24 (K_Z_law.drop 336) kS_Z_law_336 (by rw [List.drop_drop]; exact h360)
  have h312 := okS_t 24 (K_Z_law.drop 312) kS_Z_law_312 (by rw [List.drop_drop]; exact h336)
  have h288 := okS_t 24 (K_Z_law.drop 288) kS_Z_law_288 (by rw [List.drop_drop]; exact h312)
  have h264 := okS_t 24 (K_Z_law.drop 264) kS_Z_law_264 (by rw [List.drop_drop]; exact h288)
  have h240 := okS_t 24 (K_Z_law.drop 240) kS_Z_law_240 (by rw [List.drop_drop]; exact h264)
  have h216 := okS_t 24 (K_Z_law.drop 216) kS_Z_law_216 (by rw [List.drop_drop]; exact h240)
  have h192 := okS_t 24 (K_Z_law.drop 192) kS_Z_law_192 (by rw [List.drop_drop]; exact h216)
  have h168 := okS_t 24 (K_Z_law.drop 168) kS_Z_law_168 (by rw [List.drop_drop]; exact h192)
  have h144 := okS_t 24 (K_Z_law.drop 144) kS_Z_law_144 (by rw [List.drop_drop]; exact h168)
  have h120 := okS_t 24 (K_Z_law.drop 120) kS_Z_law_120 (by rw [List.drop_drop]; exact h144)
  have h96 := okS_t 24 (K_Z_law.drop 96) kS_Z_law_96 (by rw [List.drop_drop]; exact h120)
  have h72 := okS_t 24 (K_Z_law.drop 72) kS_Z_law_72 (by rw [List.drop_drop]; exact h96)
  have h48 := okS_t 24 (K_Z_law.drop 48) kS_Z_law_48 (by rw [List.drop_drop]; exact h72)
  have h24 := okS_t 24 (K_Z_law.drop 24) kS_Z_law_24 (by rw [List.drop_drop]; exact h48)
  have h0 := okS_t 24 (K_Z_law.drop 0) kS_Z_law_0 (by rw [List.drop_drop]; exact h24)
  exact h0
theorem l_Z_law (d : Nat) (k : Nat) (av : List Value) (s : Mem) (y : Int32 × Mem) (h : C_Z_law k av s = some y) : Ctr (d + 70) (mtab k) av s y ∧ ((mtab k).2.2.2.2.2 = 77 → ∃ b rest, av = .ref b :: rest ∧ (b = 1001 ∨ b = 1002)) := by
  unfold C_Z_law at h
  replace h := cbr_c h
  rcases h with ⟨hb, h⟩ | ⟨_, h⟩
  · cases beq_t hb
    exact ⟨c_C_state h (d + 68), fun q => absurd q (by decide)⟩
  replace h := cbr_c h
  rcases h with ⟨hb, h⟩ | ⟨_, h⟩
  · cases beq_t hb
    exact ⟨c_R_state h (d + 69), fun q => absurd q (by decide)⟩
  replace h := cbr_c h
  rcases h with ⟨hb, h⟩ | ⟨_, h⟩
  · cases beq_t hb
    exact ⟨c_C_flight h (d + 67), fun q => absurd q (by decide)⟩
  replace h := cbr_c h
  rcases h with ⟨hb, h⟩ | ⟨_, h⟩
  · cases beq_t hb
    exact ⟨c_R_flight h (d + 68), fun q => absurd q (by decide)⟩
  replace h := cbr_c h
  rcases h with ⟨hb, h⟩ | ⟨_, h⟩
  · cases beq_t hb
    exact ⟨c_C_set h (d + 66), fun q => absurd q (by decide)⟩
  replace h := cbr_c h
  rcases h with ⟨hb, h⟩ | ⟨_, h⟩
  · cases beq_t hb
    exact ⟨c_R_set h (d + 67), fun q => absurd q (by decide)⟩
  replace h := cbr_c h
  rcases h with ⟨hb, h⟩ | ⟨_, h⟩
  · cases beq_t hb
    exact ⟨c_C_order h (d + 66), fun q => absurd q (by decide)⟩
  replace h := cbr_c h
  rcases h with ⟨hb, h⟩ | ⟨_, h⟩
  · cases beq_t hb
    exact ⟨c_R_order h (d + 67), fun q => absurd q (by decide)⟩
  replace h := cbr_c h
  rcases h with ⟨hb, h⟩ | ⟨_, h⟩
  · cases beq_t hb
    exact ⟨c_C_visit h (d + 64), fun q => absurd q (by decide)⟩
  replace h := cbr_c h
  rcases h with ⟨hb, h⟩ | ⟨_, h⟩
  · cases beq_t hb
    exact ⟨c_R_visit h (d + 62), fun q => absurd q (by decide)⟩
  replace h := cbr_c h
  rcases h with ⟨hb, h⟩ | ⟨_, h⟩
  · cases beq_t hb
    exact ⟨c_C_nights h (d + 63), fun q => absurd q (by decide)⟩
  replace h := cbr_c h
  rcases h with ⟨hb, h⟩ | ⟨_, h⟩
  · cases beq_t hb
    exact ⟨c_R_nights h (d + 61), fun q => absurd q (by decide)⟩
  replace h := cbr_c h
  rcases h with ⟨hb, h⟩ | ⟨_, h⟩
  · cases beq_t hb
    exact ⟨c_C_feed h (d + 68), fun q => absurd q (by decide)⟩
  replace h := cbr_c h
  rcases h with ⟨hb, h⟩ | ⟨_, h⟩
  · cases beq_t hb
    exact ⟨c_R_feed h (d + 68), fun q => absurd q (by decide)⟩
  replace h := cbr_c h
  rcases h with ⟨hb, h⟩ | ⟨_, h⟩
  · cases beq_t hb
    exact ⟨c_C_end h (d + 68), fun q => absurd q (by decide)⟩
  replace h := cbr_c h
  rcases h with ⟨hb, h⟩ | ⟨_, h⟩
  · cases beq_t hb
    exact ⟨c_R_end h (d + 68), fun q => absurd q (by decide)⟩
  replace h := cbr_c h
  rcases h with ⟨hb, h⟩ | ⟨_, h⟩
  · cases beq_t hb
    exact ⟨c_C_text h (d + 8), fun q => absurd q (by decide)⟩
  replace h := cbr_c h
  rcases h with ⟨hb, h⟩ | ⟨_, h⟩
  · cases beq_t hb
    exact ⟨c_R_text h (d + 59), fun q => absurd q (by decide)⟩
  replace h := cbr_c h
  rcases h with ⟨hb, h⟩ | ⟨_, h⟩
  · cases beq_t hb
    exact ⟨c_C_fault h (d + 69), fun q => absurd q (by decide)⟩
  replace h := cbr_c h
  rcases h with ⟨hb, h⟩ | ⟨_, h⟩
  · cases beq_t hb
    exact ⟨c_R_fault h (d + 69), fun q => absurd q (by decide)⟩
  replace h := cbr_c h
  rcases h with ⟨hb, h⟩ | ⟨_, h⟩
  · cases beq_t hb
    exact ⟨c_C_of h (d + 66), fun q => absurd q (by decide)⟩
  replace h := cbr_c h
  rcases h with ⟨hb, h⟩ | ⟨_, h⟩
  · cases beq_t hb
    exact ⟨c_R_of h (d + 64), fun q => absurd q (by decide)⟩
  replace h := cbr_c h
  rcases h with ⟨hb, h⟩ | ⟨_, h⟩
  · cases beq_t hb
    exact ⟨c_C_creaks h (d + 65), fun q => absurd q (by decide)⟩
  replace h := cbr_c h
  rcases h with ⟨hb, h⟩ | ⟨_, h⟩
  · cases beq_t hb
    exact ⟨c_R_creaks h (d + 64), fun q => absurd q (by decide)⟩
  replace h := cbr_c h
  rcases h with ⟨hb, h⟩ | ⟨_, h⟩
  · cases beq_t hb
    exact ⟨c_C_wears h (d + 65), fun q => absurd q (by decide)⟩
  replace h := cbr_c h
  rcases h with ⟨hb, h⟩ | ⟨_, h⟩
  · cases beq_t hb
    exact ⟨c_R_wears h (d + 64), fun q => absurd q (by decide)⟩
  replace h := cbr_c h
  rcases h with ⟨hb, h⟩ | ⟨_, h⟩
  · cases beq_t hb
    exact ⟨c_C_book h (d + 67), fun q => absurd q (by decide)⟩
  replace h := cbr_c h
  rcases h with ⟨hb, h⟩ | ⟨_, h⟩
  · cases beq_t hb
    exact ⟨c_R_book h (d + 68), fun q => absurd q (by decide)⟩
  replace h := cbr_c h
  rcases h with ⟨hb, h⟩ | ⟨_, h⟩
  · cases beq_t hb
    exact ⟨c_C_goes h (d + 62), fun q => absurd q (by decide)⟩
  replace h := cbr_c h
  rcases h with ⟨hb, h⟩ | ⟨_, h⟩
  · cases beq_t hb
    exact ⟨c_R_goes h (d + 61), fun q => absurd q (by decide)⟩
  replace h := cbr_c h
  rcases h with ⟨hb, h⟩ | ⟨_, h⟩
  · cases beq_t hb
    exact ⟨c_C_unheard h (d + 63), fun q => absurd q (by decide)⟩
  replace h := cbr_c h
  rcases h with ⟨hb, h⟩ | ⟨_, h⟩
  · cases beq_t hb
    exact ⟨c_R_unheard h (d + 63), fun q => absurd q (by decide)⟩
  replace h := cbr_c h
  rcases h with ⟨hb, h⟩ | ⟨_, h⟩
  · cases beq_t hb
    exact ⟨c_C_suspect h (d + 67), fun q => absurd q (by decide)⟩
  replace h := cbr_c h
  rcases h with ⟨hb, h⟩ | ⟨_, h⟩
  · cases beq_t hb
    exact ⟨c_R_suspect h (d + 68), fun q => absurd q (by decide)⟩
  replace h := cbr_c h
  rcases h with ⟨hb, h⟩ | ⟨_, h⟩
  · cases beq_t hb
    exact ⟨c_C_who h (d + 63), fun q => absurd q (by decide)⟩
  replace h := cbr_c h
  rcases h with ⟨hb, h⟩ | ⟨_, h⟩
  · cases beq_t hb
    exact ⟨c_R_who h (d + 61), fun q => absurd q (by decide)⟩
  replace h := cbr_c h
  rcases h with ⟨hb, h⟩ | ⟨_, h⟩
  · cases beq_t hb
    exact ⟨c_C_roster h (d + 66), fun q => absurd q (by decide)⟩
  replace h := cbr_c h
  rcases h with ⟨hb, h⟩ | ⟨_, h⟩
  · cases beq_t hb
    exact ⟨c_R_roster h (d + 67), fun q => absurd q (by decide)⟩
  replace h := cbr_c h
  rcases h with ⟨hb, h⟩ | ⟨_, h⟩
  · cases beq_t hb
    exact ⟨c_C_signer h (d + 67), fun q => absurd q (by decide)⟩
  replace h := cbr_c h
  rcases h with ⟨hb, h⟩ | ⟨_, h⟩
  · cases beq_t hb
    exact ⟨c_R_signer h (d + 68), fun q => absurd q (by decide)⟩
  replace h := cbr_c h
  rcases h with ⟨hb, h⟩ | ⟨_, h⟩
  · cases beq_t hb
    exact ⟨c_C_signs h (d + 64), fun q => absurd q (by decide)⟩
  replace h := cbr_c h
  rcases h with ⟨hb, h⟩ | ⟨_, h⟩
  · cases beq_t hb
    exact ⟨c_R_signs h (d + 66), fun q => absurd q (by decide)⟩
  replace h := cbr_c h
  rcases h with ⟨hb, h⟩ | ⟨_, h⟩
  · cases beq_t hb
    exact ⟨c_C_joined h (d + 66), fun q => absurd q (by decide)⟩
  replace h := cbr_c h
  rcases h with ⟨hb, h⟩ | ⟨_, h⟩
  · cases beq_t hb
    exact ⟨c_R_joined h (d + 67), fun q => absurd q (by decide)⟩
  replace h := cbr_c h
  rcases h with ⟨hb, h⟩ | ⟨_, h⟩
  · cases beq_t hb
    exact ⟨c_C_mutiny h (d + 63), fun q => absurd q (by decide)⟩
  replace h := cbr_c h
  rcases h with ⟨hb, h⟩ | ⟨_, h⟩
  · cases beq_t hb
    exact ⟨c_R_mutiny h (d + 66), fun q => absurd q (by decide)⟩
  replace h := cbr_c h
  rcases h with ⟨hb, h⟩ | ⟨_, h⟩
  · cases beq_t hb
    exact ⟨c_C_drill h (d + 68), fun q => absurd q (by decide)⟩
  replace h := cbr_c h
  rcases h with ⟨hb, h⟩ | ⟨_, h⟩
  · cases beq_t hb
    exact ⟨c_R_drill h (d + 68), fun q => absurd q (by decide)⟩
  replace h := cbr_c h
  rcases h with ⟨hb, h⟩ | ⟨_, h⟩
  · cases beq_t hb
    exact ⟨c_C_drilled h (d + 66), fun q => absurd q (by decide)⟩
  replace h := cbr_c h
  rcases h with ⟨hb, h⟩ | ⟨_, h⟩
  · cases beq_t hb
    exact ⟨c_R_drilled h (d + 68), fun q => absurd q (by decide)⟩
  replace h := cbr_c h
  rcases h with ⟨hb, h⟩ | ⟨_, h⟩
  · cases beq_t hb
    exact ⟨c_C_between h (d + 67), fun q => absurd q (by decide)⟩
  replace h := cbr_c h
  rcases h with ⟨hb, h⟩ | ⟨_, h⟩
  · cases beq_t hb
    exact ⟨c_R_between h (d + 68), fun q => absurd q (by decide)⟩
  replace h := cbr_c h
  rcases h with ⟨hb, h⟩ | ⟨_, h⟩
  · cases beq_t hb
    exact ⟨c_C_spiral h (d + 67), fun q => absurd q (by decide)⟩
  replace h := cbr_c h
  rcases h with ⟨hb, h⟩ | ⟨_, h⟩
  · cases beq_t hb
    exact ⟨c_R_spiral h (d + 68), fun q => absurd q (by decide)⟩
  replace h := cbr_c h
  rcases h with ⟨hb, h⟩ | ⟨_, h⟩
  · cases beq_t hb
    exact ⟨c_C_winds h (d + 67), fun q => absurd q (by decide)⟩
  replace h := cbr_c h
  rcases h with ⟨hb, h⟩ | ⟨_, h⟩
  · cases beq_t hb
    exact ⟨c_R_winds h (d + 68), fun q => absurd q (by decide)⟩
  replace h := cbr_c h
  rcases h with ⟨hb, h⟩ | ⟨_, h⟩
  · cases beq_t hb
    exact ⟨c_C_calls h (d + 66), fun q => absurd q (by decide)⟩
  replace h := cbr_c h
  rcases h with ⟨hb, h⟩ | ⟨_, h⟩
  · cases beq_t hb
    exact ⟨c_R_calls h (d + 68), fun q => absurd q (by decide)⟩
  replace h := cbr_c h
  rcases h with ⟨hb, h⟩ | ⟨_, h⟩
  · cases beq_t hb
    exact ⟨c_C_missing h (d + 66), fun q => absurd q (by decide)⟩
  replace h := cbr_c h
  rcases h with ⟨hb, h⟩ | ⟨_, h⟩
  · cases beq_t hb
    exact ⟨c_R_missing h (d + 68), fun q => absurd q (by decide)⟩
  replace h := cbr_c h
  rcases h with ⟨hb, h⟩ | ⟨_, h⟩
  · cases beq_t hb
    exact ⟨c_C_length h (d + 66), fun q => absurd q (by decide)⟩
  replace h := cbr_c h
  rcases h with ⟨hb, h⟩ | ⟨_, h⟩
  · cases beq_t hb
    exact ⟨c_R_length h (d + 68), fun q => absurd q (by decide)⟩
  replace h := cbr_c h
  rcases h with ⟨hb, h⟩ | ⟨_, h⟩
  · cases beq_t hb
    exact ⟨c_C_runner h (d + 65), fun q => absurd q (by decide)⟩
  replace h := cbr_c h
  rcases h with ⟨hb, h⟩ | ⟨_, h⟩
  · cases beq_t hb
    exact ⟨c_R_runner h (d + 66), fun q => absurd q (by decide)⟩
  replace h := cbr_c h
  rcases h with ⟨hb, h⟩ | ⟨_, h⟩
  · cases beq_t hb
    exact ⟨c_C_wall h (d + 66), fun q => absurd q (by decide)⟩
  replace h := cbr_c h
  rcases h with ⟨hb, h⟩ | ⟨_, h⟩
  · cases beq_t hb
    exact ⟨c_R_wall h (d + 68), fun q => absurd q (by decide)⟩
  replace h := cbr_c h
  rcases h with ⟨hb, h⟩ | ⟨_, h⟩
  · cases beq_t hb
    exact ⟨c_C_ramp h (d + 66), fun q => absurd q (by decide)⟩
  replace h := cbr_c h
  rcases h with ⟨hb, h⟩ | ⟨_, h⟩
  · cases beq_t hb
    exact ⟨c_R_ramp h (d + 68), fun q => absurd q (by decide)⟩
  replace h := cbr_c h
  rcases h with ⟨hb, h⟩ | ⟨_, h⟩
  · cases beq_t hb
    exact ⟨c_C_box h (d + 67), fun q => absurd q (by decide)⟩
  replace h := cbr_c h
  rcases h with ⟨hb, h⟩ | ⟨_, h⟩
  · cases beq_t hb
    exact ⟨c_R_box h (d + 68), fun q => absurd q (by decide)⟩
  replace h := cbr_c h
  rcases h with ⟨hb, h⟩ | ⟨_, h⟩
  · cases beq_t hb
    exact ⟨c_C_digit h (d + 66), fun q => absurd q (by decide)⟩
  replace h := cbr_c h
  rcases h with ⟨hb, h⟩ | ⟨_, h⟩
  · cases beq_t hb
    exact ⟨c_R_digit h (d + 68), fun q => absurd q (by decide)⟩
  replace h := cbr_c h
  rcases h with ⟨hb, h⟩ | ⟨_, h⟩
  · cases beq_t hb
    exact ⟨c_C_cellar h (d + 65), fun q => absurd q (by decide)⟩
  replace h := cbr_c h
  rcases h with ⟨hb, h⟩ | ⟨_, h⟩
  · cases beq_t hb
    exact ⟨c_R_cellar h (d + 67), fun q => absurd q (by decide)⟩
  replace h := cbr_c h
  rcases h with ⟨hb, h⟩ | ⟨_, h⟩
  · cases beq_t hb
    exact ⟨c_C_coins h (d + 68), fun q => absurd q (by decide)⟩
  replace h := cbr_c h
  rcases h with ⟨hb, h⟩ | ⟨_, h⟩
  · cases beq_t hb
    exact ⟨c_R_coins h (d + 68), fun q => absurd q (by decide)⟩
  replace h := cbr_c h
  rcases h with ⟨hb, h⟩ | ⟨_, h⟩
  · cases beq_t hb
    exact ⟨c_C_game h (d + 68), fun q => absurd q (by decide)⟩
  replace h := cbr_c h
  rcases h with ⟨hb, h⟩ | ⟨_, h⟩
  · cases beq_t hb
    exact ⟨c_R_game h (d + 68), fun q => absurd q (by decide)⟩
  replace h := cbr_c h
  rcases h with ⟨hb, h⟩ | ⟨_, h⟩
  · cases beq_t hb
    exact ⟨c_C_undo h (d + 67), fun q => absurd q (by decide)⟩
  replace h := cbr_c h
  rcases h with ⟨hb, h⟩ | ⟨_, h⟩
  · cases beq_t hb
    exact ⟨c_R_undo h (d + 69), fun q => absurd q (by decide)⟩
  replace h := cbr_c h
  rcases h with ⟨hb, h⟩ | ⟨_, h⟩
  · cases beq_t hb
    exact ⟨c_C_image h (d + 65), fun q => absurd q (by decide)⟩
  replace h := cbr_c h
  rcases h with ⟨hb, h⟩ | ⟨_, h⟩
  · cases beq_t hb
    exact ⟨c_R_image h (d + 67), fun q => absurd q (by decide)⟩
  replace h := cbr_c h
  rcases h with ⟨hb, h⟩ | ⟨_, h⟩
  · cases beq_t hb
    exact ⟨c_C_look h (d + 69), fun q => absurd q (by decide)⟩
  replace h := cbr_c h
  rcases h with ⟨hb, h⟩ | ⟨_, h⟩
  · cases beq_t hb
    exact ⟨c_R_look h (d + 69), fun q => absurd q (by decide)⟩
  cases h
def SmL (scL : Nat) (scX : Nat → Int32) (z : Int32 × Mem) (RA : Nat → List (Option Value) → Mem → Prop) : Prop :=
  (∀ (pc : Nat) (ls ls1 : List (Option Value)) (σ : Mem), ls1.length = 4 → (∀ i v, lk ls1 i = some v → lk ls i = some v) → RA pc ls1 σ → RA pc ls σ) ∧
  ∀ (K : Nat → List (Option Value) → Mem → Option (Int32 × Mem)), (∀ k ls σ, K k ls σ = some z → RA (nth 0 [18, 216, 239, 272, 325, 368, 437, 460, 523, 546, 569, 592, 635, 688, 741, 774, 807, 860, 893, 936, 979, 1002, 1025, 1068, 1101, 1124, 1157, 1190, 1223, 1256, 1279, 1302, 1325, 1358, 1381, 1414, 1457, 1480, 1503, 1536, 1559, 1572, 1611] k) ls σ) → ∀ (n j : Nat) (ls : List (Option Value)) (σ : Mem), ck1 ls → xs C_Z_law K scL scX K_Z_law n (K_Z_law.drop j) ls [] σ = some z → RA (pcO (K_Z_law.drop j)) ls σ
theorem a_Z_law {z : Int32 × Mem} {RA : Nat → List (Option Value) → Mem → Prop} {pc : Nat} (hm : ∀ (pc : Nat) (ls ls1 : List (Option Value)) (σ : Mem), ls1.length = 4 → (∀ i v, lk ls1 i = some v → lk ls i = some v) → RA pc ls1 σ → RA pc ls σ) {f : Int32 → Mem → Option (Int32 × Mem)} {ls : List (Option Value)} {s : Mem} (h : A_Z_law f ls s = some z) (hf : ∀ (x3 : Int32) (s : Mem), f x3 s = some z → RA pc [some (.ref 1000), some (.ref 0), some (.ref 123), some (.int x3)] s) : RA pc ls s := by
  unfold A_Z_law at h
  split at h
  · rename_i a0 a1 a2 a3 e0 e1 e2 e3
    replace h := cbr_n h
    obtain ⟨hb, h⟩ := h
    cases beq_t hb
    replace h := cbr_n h
    obtain ⟨hb, h⟩ := h
    cases beq_t hb
    replace h := cbr_n h
    obtain ⟨hb, h⟩ := h
    cases beq_t hb
    refine hm _ _ [some (.ref 1000), some (.ref 0), some (.ref 123), some (.int a3)] _ rfl (fun i v hv => ?_) (hf _ _ h)
    match i, hv with
    | 0, hv => exact e0.trans hv
    | 1, hv => exact e1.trans hv
    | 2, hv => exact e2.trans hv
    | 3, hv => exact e3.trans hv
    | i + 4, hv => cases hv
  · cases h
set_option maxRecDepth 1000000 in
theorem n_Z_law_22 {scL : Nat} {scX : Nat → Int32} {z : Int32 × Mem} {RA : Nat → List (Option Value) → Mem → Prop} (S : SmL scL scX z RA) {k10 : Int32 → Mem → Option (Int32 × Mem)} (hk10 : ∀ (x3 : Int32) (s : Mem), k10 x3 s = some z → RA 18 [some (.ref 1000), some (.ref 0), some (.ref 123), some (.int x3)] s) : ∀ (n : Nat) (x3 : Int32) (s : Mem), F_Z_law_22 scL scX k10 n x3 s = some z → RA 216 [some (.ref 1000), some (.ref 0), some (.ref 123), some (.int x3)] s := by
  intro n
  induction n with
  | zero => intro x3 s h; exact nomatch (show (none : Option (Int32 × Mem)) = some z from h)
  | succ n ih =>
    intro x3 s h
    rw [e_Z_law_22] at h
    have hp : pcO (K_Z_law.drop 14) = 216 := by decide +kernel
    rw [← hp]
    refine S.2 _ ?_ 700 14 _ _ (ck1_of rfl) h
    intro k ls s h
    replace h := cbr_c h
    rcases h with ⟨hb, h⟩ | ⟨_, h⟩
    · cases beq_t hb
      exact a_Z_law S.1 h hk10
    cases h
set_option maxRecDepth 1000000 in
theorem n_Z_law_39 {scL : Nat} {scX : Nat → Int32} {z : Int32 × Mem} {RA : Nat → List (Option Value) → Mem → Prop} (S : SmL scL scX z RA) {k10 : Int32 → Mem → Option (Int32 × Mem)} (hk10 : ∀ (x3 : Int32) (s : Mem), k10 x3 s = some z → RA 18 [some (.ref 1000), some (.ref 0), some (.ref 123), some (.int x3)] s) : ∀ (n : Nat) (x3 : Int32) (s : Mem), F_Z_law_39 scL scX k10 n x3 s = some z → RA 239 [some (.ref 1000), some (.ref 0), some (.ref 123), some (.int x3)] s := by
  intro n
  induction n with
  | zero => intro x3 s h; exact nomatch (show (none : Option (Int32 × Mem)) = some z from h)
  | succ n ih =>
    intro x3 s h
    rw [e_Z_law_39] at h
    have hp : pcO (K_Z_law.drop 32) = 239 := by decide +kernel
    rw [← hp]
    refine S.2 _ ?_ 700 32 _ _ (ck1_of rfl) h
    intro k ls s h
    replace h := cbr_c h
    rcases h with ⟨hb, h⟩ | ⟨_, h⟩
    · cases beq_t hb
      exact a_Z_law S.1 h hk10
    cases h
set_option maxRecDepth 1000000 in
theorem n_Z_law_66 {scL : Nat} {scX : Nat → Int32} {z : Int32 × Mem} {RA : Nat → List (Option Value) → Mem → Prop} (S : SmL scL scX z RA) {k10 : Int32 → Mem → Option (Int32 × Mem)} (hk10 : ∀ (x3 : Int32) (s : Mem), k10 x3 s = some z → RA 18 [some (.ref 1000), some (.ref 0), some (.ref 123), some (.int x3)] s) : ∀ (n : Nat) (x3 : Int32) (s : Mem), F_Z_law_66 scL scX k10 n x3 s = some z → RA 272 [some (.ref 1000), some (.ref 0), some (.ref 123), some (.int x3)] s := by
  intro n
  induction n with
  | zero => intro x3 s h; exact nomatch (show (none : Option (Int32 × Mem)) = some z from h)
  | succ n ih =>
    intro x3 s h
    rw [e_Z_law_66] at h
    have hp : pcO (K_Z_law.drop 60) = 272 := by decide +kernel
    rw [← hp]
    refine S.2 _ ?_ 700 60 _ _ (ck1_of rfl) h
    intro k ls s h
    replace h := cbr_c h
    rcases h with ⟨hb, h⟩ | ⟨_, h⟩
    · cases beq_t hb
      exact a_Z_law S.1 h hk10
    cases h
set_option maxRecDepth 1000000 in
theorem n_Z_law_113 {scL : Nat} {scX : Nat → Int32} {z : Int32 × Mem} {RA : Nat → List (Option Value) → Mem → Prop} (S : SmL scL scX z RA) {k10 : Int32 → Mem → Option (Int32 × Mem)} (hk10 : ∀ (x3 : Int32) (s : Mem), k10 x3 s = some z → RA 18 [some (.ref 1000), some (.ref 0), some (.ref 123), some (.int x3)] s) : ∀ (n : Nat) (x3 : Int32) (s : Mem), F_Z_law_113 scL scX k10 n x3 s = some z → RA 325 [some (.ref 1000), some (.ref 0), some (.ref 123), some (.int x3)] s := by
  intro n
  induction n with
  | zero => intro x3 s h; exact nomatch (show (none : Option (Int32 × Mem)) = some z from h)
  | succ n ih =>
    intro x3 s h
    rw [e_Z_law_113] at h
    have hp : pcO (K_Z_law.drop 108) = 325 := by decide +kernel
    rw [← hp]
    refine S.2 _ ?_ 700 108 _ _ (ck1_of rfl) h
    intro k ls s h
    replace h := cbr_c h
    rcases h with ⟨hb, h⟩ | ⟨_, h⟩
    · cases beq_t hb
      exact a_Z_law S.1 h hk10
    cases h
set_option maxRecDepth 1000000 in
theorem n_Z_law_150 {scL : Nat} {scX : Nat → Int32} {z : Int32 × Mem} {RA : Nat → List (Option Value) → Mem → Prop} (S : SmL scL scX z RA) {k10 : Int32 → Mem → Option (Int32 × Mem)} (hk10 : ∀ (x3 : Int32) (s : Mem), k10 x3 s = some z → RA 18 [some (.ref 1000), some (.ref 0), some (.ref 123), some (.int x3)] s) : ∀ (n : Nat) (x3 : Int32) (s : Mem), F_Z_law_150 scL scX k10 n x3 s = some z → RA 368 [some (.ref 1000), some (.ref 0), some (.ref 123), some (.int x3)] s := by
  intro n
  induction n with
  | zero => intro x3 s h; exact nomatch (show (none : Option (Int32 × Mem)) = some z from h)
  | succ n ih =>
    intro x3 s h
    rw [e_Z_law_150] at h
    have hp : pcO (K_Z_law.drop 146) = 368 := by decide +kernel
    rw [← hp]
    refine S.2 _ ?_ 700 146 _ _ (ck1_of rfl) h
    intro k ls s h
    replace h := cbr_c h
    rcases h with ⟨hb, h⟩ | ⟨_, h⟩
    · cases beq_t hb
      exact a_Z_law S.1 h hk10
    cases h
set_option maxRecDepth 1000000 in
theorem n_Z_law_205 {scL : Nat} {scX : Nat → Int32} {z : Int32 × Mem} {RA : Nat → List (Option Value) → Mem → Prop} (S : SmL scL scX z RA) {k10 : Int32 → Mem → Option (Int32 × Mem)} (hk10 : ∀ (x3 : Int32) (s : Mem), k10 x3 s = some z → RA 18 [some (.ref 1000), some (.ref 0), some (.ref 123), some (.int x3)] s) : ∀ (n : Nat) (x3 : Int32) (s : Mem), F_Z_law_205 scL scX k10 n x3 s = some z → RA 437 [some (.ref 1000), some (.ref 0), some (.ref 123), some (.int x3)] s := by
  intro n
  induction n with
  | zero => intro x3 s h; exact nomatch (show (none : Option (Int32 × Mem)) = some z from h)
  | succ n ih =>
    intro x3 s h
    rw [e_Z_law_205] at h
    have hp : pcO (K_Z_law.drop 202) = 437 := by decide +kernel
    rw [← hp]
    refine S.2 _ ?_ 700 202 _ _ (ck1_of rfl) h
    intro k ls s h
    replace h := cbr_c h
    rcases h with ⟨hb, h⟩ | ⟨_, h⟩
    · cases beq_t hb
      exact a_Z_law S.1 h hk10
    cases h
set_option maxRecDepth 1000000 in
theorem n_Z_law_222 {scL : Nat} {scX : Nat → Int32} {z : Int32 × Mem} {RA : Nat → List (Option Value) → Mem → Prop} (S : SmL scL scX z RA) {k10 : Int32 → Mem → Option (Int32 × Mem)} (hk10 : ∀ (x3 : Int32) (s : Mem), k10 x3 s = some z → RA 18 [some (.ref 1000), some (.ref 0), some (.ref 123), some (.int x3)] s) : ∀ (n : Nat) (x3 : Int32) (s : Mem), F_Z_law_222 scL scX k10 n x3 s = some z → RA 460 [some (.ref 1000), some (.ref 0), some (.ref 123), some (.int x3)] s := by
  intro n
  induction n with
  | zero => intro x3 s h; exact nomatch (show (none : Option (Int32 × Mem)) = some z from h)
  | succ n ih =>
    intro x3 s h
    rw [e_Z_law_222] at h
    have hp : pcO (K_Z_law.drop 220) = 460 := by decide +kernel
    rw [← hp]
    refine S.2 _ ?_ 700 220 _ _ (ck1_of rfl) h
    intro k ls s h
    replace h := cbr_c h
    rcases h with ⟨hb, h⟩ | ⟨_, h⟩
    · cases beq_t hb
      exact a_Z_law S.1 h hk10
    cases h
set_option maxRecDepth 1000000 in
theorem n_Z_law_279 {scL : Nat} {scX : Nat → Int32} {z : Int32 × Mem} {RA : Nat → List (Option Value) → Mem → Prop} (S : SmL scL scX z RA) {k10 : Int32 → Mem → Option (Int32 × Mem)} (hk10 : ∀ (x3 : Int32) (s : Mem), k10 x3 s = some z → RA 18 [some (.ref 1000), some (.ref 0), some (.ref 123), some (.int x3)] s) : ∀ (n : Nat) (x3 : Int32) (s : Mem), F_Z_law_279 scL scX k10 n x3 s = some z → RA 523 [some (.ref 1000), some (.ref 0), some (.ref 123), some (.int x3)] s := by
  intro n
  induction n with
  | zero => intro x3 s h; exact nomatch (show (none : Option (Int32 × Mem)) = some z from h)
  | succ n ih =>
    intro x3 s h
    rw [e_Z_law_279] at h
    have hp : pcO (K_Z_law.drop 278) = 523 := by decide +kernel
    rw [← hp]
    refine S.2 _ ?_ 700 278 _ _ (ck1_of rfl) h
    intro k ls s h
    replace h := cbr_c h
    rcases h with ⟨hb, h⟩ | ⟨_, h⟩
    · cases beq_t hb
      exact a_Z_law S.1 h hk10
    cases h
set_option maxRecDepth 1000000 in
theorem n_Z_law_296 {scL : Nat} {scX : Nat → Int32} {z : Int32 × Mem} {RA : Nat → List (Option Value) → Mem → Prop} (S : SmL scL scX z RA) {k10 : Int32 → Mem → Option (Int32 × Mem)} (hk10 : ∀ (x3 : Int32) (s : Mem), k10 x3 s = some z → RA 18 [some (.ref 1000), some (.ref 0), some (.ref 123), some (.int x3)] s) : ∀ (n : Nat) (x3 : Int32) (s : Mem), F_Z_law_296 scL scX k10 n x3 s = some z → RA 546 [some (.ref 1000), some (.ref 0), some (.ref 123), some (.int x3)] s := by
  intro n
  induction n with
  | zero => intro x3 s h; exact nomatch (show (none : Option (Int32 × Mem)) = some z from h)
  | succ n ih =>
    intro x3 s h
    rw [e_Z_law_296] at h
    have hp : pcO (K_Z_law.drop 296) = 546 := by decide +kernel
    rw [← hp]
    refine S.2 _ ?_ 700 296 _ _ (ck1_of rfl) h
    intro k ls s h
    replace h := cbr_c h
    rcases h with ⟨hb, h⟩ | ⟨_, h⟩
    · cases beq_t hb
      exact a_Z_law S.1 h hk10
    cases h
set_option maxRecDepth 1000000 in
theorem n_Z_law_313 {scL : Nat} {scX : Nat → Int32} {z : Int32 × Mem} {RA : Nat → List (Option Value) → Mem → Prop} (S : SmL scL scX z RA) {k10 : Int32 → Mem → Option (Int32 × Mem)} (hk10 : ∀ (x3 : Int32) (s : Mem), k10 x3 s = some z → RA 18 [some (.ref 1000), some (.ref 0), some (.ref 123), some (.int x3)] s) : ∀ (n : Nat) (x3 : Int32) (s : Mem), F_Z_law_313 scL scX k10 n x3 s = some z → RA 569 [some (.ref 1000), some (.ref 0), some (.ref 123), some (.int x3)] s := by
  intro n
  induction n with
  | zero => intro x3 s h; exact nomatch (show (none : Option (Int32 × Mem)) = some z from h)
  | succ n ih =>
    intro x3 s h
    rw [e_Z_law_313] at h
    have hp : pcO (K_Z_law.drop 314) = 569 := by decide +kernel
    rw [← hp]
    refine S.2 _ ?_ 700 314 _ _ (ck1_of rfl) h
    intro k ls s h
    replace h := cbr_c h
    rcases h with ⟨hb, h⟩ | ⟨_, h⟩
    · cases beq_t hb
      exact a_Z_law S.1 h hk10
    cases h
set_option maxRecDepth 1000000 in
theorem n_Z_law_330 {scL : Nat} {scX : Nat → Int32} {z : Int32 × Mem} {RA : Nat → List (Option Value) → Mem → Prop} (S : SmL scL scX z RA) {k10 : Int32 → Mem → Option (Int32 × Mem)} (hk10 : ∀ (x3 : Int32) (s : Mem), k10 x3 s = some z → RA 18 [some (.ref 1000), some (.ref 0), some (.ref 123), some (.int x3)] s) : ∀ (n : Nat) (x3 : Int32) (s : Mem), F_Z_law_330 scL scX k10 n x3 s = some z → RA 592 [some (.ref 1000), some (.ref 0), some (.ref 123), some (.int x3)] s := by
  intro n
  induction n with
  | zero => intro x3 s h; exact nomatch (show (none : Option (Int32 × Mem)) = some z from h)
  | succ n ih =>
    intro x3 s h
    rw [e_Z_law_330] at h
    have hp : pcO (K_Z_law.drop 332) = 592 := by decide +kernel
    rw [← hp]
    refine S.2 _ ?_ 700 332 _ _ (ck1_of rfl) h
    intro k ls s h
    replace h := cbr_c h
    rcases h with ⟨hb, h⟩ | ⟨_, h⟩
    · cases beq_t hb
      exact a_Z_law S.1 h hk10
    cases h
set_option maxRecDepth 1000000 in
theorem n_Z_law_367 {scL : Nat} {scX : Nat → Int32} {z : Int32 × Mem} {RA : Nat → List (Option Value) → Mem → Prop} (S : SmL scL scX z RA) {k10 : Int32 → Mem → Option (Int32 × Mem)} (hk10 : ∀ (x3 : Int32) (s : Mem), k10 x3 s = some z → RA 18 [some (.ref 1000), some (.ref 0), some (.ref 123), some (.int x3)] s) : ∀ (n : Nat) (x3 : Int32) (s : Mem), F_Z_law_367 scL scX k10 n x3 s = some z → RA 635 [some (.ref 1000), some (.ref 0), some (.ref 123), some (.int x3)] s := by
  intro n
  induction n with
  | zero => intro x3 s h; exact nomatch (show (none : Option (Int32 × Mem)) = some z from h)
  | succ n ih =>
    intro x3 s h
    rw [e_Z_law_367] at h
    have hp : pcO (K_Z_law.drop 370) = 635 := by decide +kernel
    rw [← hp]
    refine S.2 _ ?_ 700 370 _ _ (ck1_of rfl) h
    intro k ls s h
    replace h := cbr_c h
    rcases h with ⟨hb, h⟩ | ⟨_, h⟩
    · cases beq_t hb
      exact a_Z_law S.1 h hk10
    cases h
set_option maxRecDepth 1000000 in
theorem n_Z_law_414 {scL : Nat} {scX : Nat → Int32} {z : Int32 × Mem} {RA : Nat → List (Option Value) → Mem → Prop} (S : SmL scL scX z RA) {k10 : Int32 → Mem → Option (Int32 × Mem)} (hk10 : ∀ (x3 : Int32) (s : Mem), k10 x3 s = some z → RA 18 [some (.ref 1000), some (.ref 0), some (.ref 123), some (.int x3)] s) : ∀ (n : Nat) (x3 : Int32) (s : Mem), F_Z_law_414 scL scX k10 n x3 s = some z → RA 688 [some (.ref 1000), some (.ref 0), some (.ref 123), some (.int x3)] s := by
  intro n
  induction n with
  | zero => intro x3 s h; exact nomatch (show (none : Option (Int32 × Mem)) = some z from h)
  | succ n ih =>
    intro x3 s h
    rw [e_Z_law_414] at h
    have hp : pcO (K_Z_law.drop 418) = 688 := by decide +kernel
    rw [← hp]
    refine S.2 _ ?_ 700 418 _ _ (ck1_of rfl) h
    intro k ls s h
    replace h := cbr_c h
    rcases h with ⟨hb, h⟩ | ⟨_, h⟩
    · cases beq_t hb
      exact a_Z_law S.1 h hk10
    cases h
set_option maxRecDepth 1000000 in
theorem n_Z_law_461 {scL : Nat} {scX : Nat → Int32} {z : Int32 × Mem} {RA : Nat → List (Option Value) → Mem → Prop} (S : SmL scL scX z RA) {k10 : Int32 → Mem → Option (Int32 × Mem)} (hk10 : ∀ (x3 : Int32) (s : Mem), k10 x3 s = some z → RA 18 [some (.ref 1000), some (.ref 0), some (.ref 123), some (.int x3)] s) : ∀ (n : Nat) (x3 : Int32) (s : Mem), F_Z_law_461 scL scX k10 n x3 s = some z → RA 741 [some (.ref 1000), some (.ref 0), some (.ref 123), some (.int x3)] s := by
  intro n
  induction n with
  | zero => intro x3 s h; exact nomatch (show (none : Option (Int32 × Mem)) = some z from h)
  | succ n ih =>
    intro x3 s h
    rw [e_Z_law_461] at h
    have hp : pcO (K_Z_law.drop 466) = 741 := by decide +kernel
    rw [← hp]
    refine S.2 _ ?_ 700 466 _ _ (ck1_of rfl) h
    intro k ls s h
    replace h := cbr_c h
    rcases h with ⟨hb, h⟩ | ⟨_, h⟩
    · cases beq_t hb
      exact a_Z_law S.1 h hk10
    cases h
set_option maxRecDepth 1000000 in
theorem n_Z_law_488 {scL : Nat} {scX : Nat → Int32} {z : Int32 × Mem} {RA : Nat → List (Option Value) → Mem → Prop} (S : SmL scL scX z RA) {k10 : Int32 → Mem → Option (Int32 × Mem)} (hk10 : ∀ (x3 : Int32) (s : Mem), k10 x3 s = some z → RA 18 [some (.ref 1000), some (.ref 0), some (.ref 123), some (.int x3)] s) : ∀ (n : Nat) (x3 : Int32) (s : Mem), F_Z_law_488 scL scX k10 n x3 s = some z → RA 774 [some (.ref 1000), some (.ref 0), some (.ref 123), some (.int x3)] s := by
  intro n
  induction n with
  | zero => intro x3 s h; exact nomatch (show (none : Option (Int32 × Mem)) = some z from h)
  | succ n ih =>
    intro x3 s h
    rw [e_Z_law_488] at h
    have hp : pcO (K_Z_law.drop 494) = 774 := by decide +kernel
    rw [← hp]
    refine S.2 _ ?_ 700 494 _ _ (ck1_of rfl) h
    intro k ls s h
    replace h := cbr_c h
    rcases h with ⟨hb, h⟩ | ⟨_, h⟩
    · cases beq_t hb
      exact a_Z_law S.1 h hk10
    cases h
set_option maxRecDepth 1000000 in
theorem n_Z_law_515 {scL : Nat} {scX : Nat → Int32} {z : Int32 × Mem} {RA : Nat → List (Option Value) → Mem → Prop} (S : SmL scL scX z RA) {k10 : Int32 → Mem → Option (Int32 × Mem)} (hk10 : ∀ (x3 : Int32) (s : Mem), k10 x3 s = some z → RA 18 [some (.ref 1000), some (.ref 0), some (.ref 123), some (.int x3)] s) : ∀ (n : Nat) (x3 : Int32) (s : Mem), F_Z_law_515 scL scX k10 n x3 s = some z → RA 807 [some (.ref 1000), some (.ref 0), some (.ref 123), some (.int x3)] s := by
  intro n
  induction n with
  | zero => intro x3 s h; exact nomatch (show (none : Option (Int32 × Mem)) = some z from h)
  | succ n ih =>
    intro x3 s h
    rw [e_Z_law_515] at h
    have hp : pcO (K_Z_law.drop 522) = 807 := by decide +kernel
    rw [← hp]
    refine S.2 _ ?_ 700 522 _ _ (ck1_of rfl) h
    intro k ls s h
    replace h := cbr_c h
    rcases h with ⟨hb, h⟩ | ⟨_, h⟩
    · cases beq_t hb
      exact a_Z_law S.1 h hk10
    cases h
set_option maxRecDepth 1000000 in
theorem n_Z_law_562 {scL : Nat} {scX : Nat → Int32} {z : Int32 × Mem} {RA : Nat → List (Option Value) → Mem → Prop} (S : SmL scL scX z RA) {k10 : Int32 → Mem → Option (Int32 × Mem)} (hk10 : ∀ (x3 : Int32) (s : Mem), k10 x3 s = some z → RA 18 [some (.ref 1000), some (.ref 0), some (.ref 123), some (.int x3)] s) : ∀ (n : Nat) (x3 : Int32) (s : Mem), F_Z_law_562 scL scX k10 n x3 s = some z → RA 860 [some (.ref 1000), some (.ref 0), some (.ref 123), some (.int x3)] s := by
  intro n
  induction n with
  | zero => intro x3 s h; exact nomatch (show (none : Option (Int32 × Mem)) = some z from h)
  | succ n ih =>
    intro x3 s h
    rw [e_Z_law_562] at h
    have hp : pcO (K_Z_law.drop 570) = 860 := by decide +kernel
    rw [← hp]
    refine S.2 _ ?_ 700 570 _ _ (ck1_of rfl) h
    intro k ls s h
    replace h := cbr_c h
    rcases h with ⟨hb, h⟩ | ⟨_, h⟩
    · cases beq_t hb
      exact a_Z_law S.1 h hk10
    cases h
set_option maxRecDepth 1000000 in
theorem n_Z_law_589 {scL : Nat} {scX : Nat → Int32} {z : Int32 × Mem} {RA : Nat → List (Option Value) → Mem → Prop} (S : SmL scL scX z RA) {k10 : Int32 → Mem → Option (Int32 × Mem)} (hk10 : ∀ (x3 : Int32) (s : Mem), k10 x3 s = some z → RA 18 [some (.ref 1000), some (.ref 0), some (.ref 123), some (.int x3)] s) : ∀ (n : Nat) (x3 : Int32) (s : Mem), F_Z_law_589 scL scX k10 n x3 s = some z → RA 893 [some (.ref 1000), some (.ref 0), some (.ref 123), some (.int x3)] s := by
  intro n
  induction n with
  | zero => intro x3 s h; exact nomatch (show (none : Option (Int32 × Mem)) = some z from h)
  | succ n ih =>
    intro x3 s h
    rw [e_Z_law_589] at h
    have hp : pcO (K_Z_law.drop 598) = 893 := by decide +kernel
    rw [← hp]
    refine S.2 _ ?_ 700 598 _ _ (ck1_of rfl) h
    intro k ls s h
    replace h := cbr_c h
    rcases h with ⟨hb, h⟩ | ⟨_, h⟩
    · cases beq_t hb
      exact a_Z_law S.1 h hk10
    cases h
set_option maxRecDepth 1000000 in
theorem n_Z_law_626 {scL : Nat} {scX : Nat → Int32} {z : Int32 × Mem} {RA : Nat → List (Option Value) → Mem → Prop} (S : SmL scL scX z RA) {k10 : Int32 → Mem → Option (Int32 × Mem)} (hk10 : ∀ (x3 : Int32) (s : Mem), k10 x3 s = some z → RA 18 [some (.ref 1000), some (.ref 0), some (.ref 123), some (.int x3)] s) : ∀ (n : Nat) (x3 : Int32) (s : Mem), F_Z_law_626 scL scX k10 n x3 s = some z → RA 936 [some (.ref 1000), some (.ref 0), some (.ref 123), some (.int x3)] s := by
  intro n
  induction n with
  | zero => intro x3 s h; exact nomatch (show (none : Option (Int32 × Mem)) = some z from h)
  | succ n ih =>
    intro x3 s h
    rw [e_Z_law_626] at h
    have hp : pcO (K_Z_law.drop 636) = 936 := by decide +kernel
    rw [← hp]
    refine S.2 _ ?_ 700 636 _ _ (ck1_of rfl) h
    intro k ls s h
    replace h := cbr_c h
    rcases h with ⟨hb, h⟩ | ⟨_, h⟩
    · cases beq_t hb
      exact a_Z_law S.1 h hk10
    cases h
set_option maxRecDepth 1000000 in
theorem n_Z_law_663 {scL : Nat} {scX : Nat → Int32} {z : Int32 × Mem} {RA : Nat → List (Option Value) → Mem → Prop} (S : SmL scL scX z RA) {k10 : Int32 → Mem → Option (Int32 × Mem)} (hk10 : ∀ (x3 : Int32) (s : Mem), k10 x3 s = some z → RA 18 [some (.ref 1000), some (.ref 0), some (.ref 123), some (.int x3)] s) : ∀ (n : Nat) (x3 : Int32) (s : Mem), F_Z_law_663 scL scX k10 n x3 s = some z → RA 979 [some (.ref 1000), some (.ref 0), some (.ref 123), some (.int x3)] s := by
  intro n
  induction n with
  | zero => intro x3 s h; exact nomatch (show (none : Option (Int32 × Mem)) = some z from h)
  | succ n ih =>
    intro x3 s h
    rw [e_Z_law_663] at h
    have hp : pcO (K_Z_law.drop 674) = 979 := by decide +kernel
    rw [← hp]
    refine S.2 _ ?_ 700 674 _ _ (ck1_of rfl) h
    intro k ls s h
    replace h := cbr_c h
    rcases h with ⟨hb, h⟩ | ⟨_, h⟩
    · cases beq_t hb
      exact a_Z_law S.1 h hk10
    cases h
set_option maxRecDepth 1000000 in
theorem n_Z_law_680 {scL : Nat} {scX : Nat → Int32} {z : Int32 × Mem} {RA : Nat → List (Option Value) → Mem → Prop} (S : SmL scL scX z RA) {k10 : Int32 → Mem → Option (Int32 × Mem)} (hk10 : ∀ (x3 : Int32) (s : Mem), k10 x3 s = some z → RA 18 [some (.ref 1000), some (.ref 0), some (.ref 123), some (.int x3)] s) : ∀ (n : Nat) (x3 : Int32) (s : Mem), F_Z_law_680 scL scX k10 n x3 s = some z → RA 1002 [some (.ref 1000), some (.ref 0), some (.ref 123), some (.int x3)] s := by
  intro n
  induction n with
  | zero => intro x3 s h; exact nomatch (show (none : Option (Int32 × Mem)) = some z from h)
  | succ n ih =>
    intro x3 s h
    rw [e_Z_law_680] at h
    have hp : pcO (K_Z_law.drop 692) = 1002 := by decide +kernel
    rw [← hp]
    refine S.2 _ ?_ 700 692 _ _ (ck1_of rfl) h
    intro k ls s h
    replace h := cbr_c h
    rcases h with ⟨hb, h⟩ | ⟨_, h⟩
    · cases beq_t hb
      exact a_Z_law S.1 h hk10
    cases h
set_option maxRecDepth 1000000 in
theorem n_Z_law_697 {scL : Nat} {scX : Nat → Int32} {z : Int32 × Mem} {RA : Nat → List (Option Value) → Mem → Prop} (S : SmL scL scX z RA) {k10 : Int32 → Mem → Option (Int32 × Mem)} (hk10 : ∀ (x3 : Int32) (s : Mem), k10 x3 s = some z → RA 18 [some (.ref 1000), some (.ref 0), some (.ref 123), some (.int x3)] s) : ∀ (n : Nat) (x3 : Int32) (s : Mem), F_Z_law_697 scL scX k10 n x3 s = some z → RA 1025 [some (.ref 1000), some (.ref 0), some (.ref 123), some (.int x3)] s := by
  intro n
  induction n with
  | zero => intro x3 s h; exact nomatch (show (none : Option (Int32 × Mem)) = some z from h)
  | succ n ih =>
    intro x3 s h
    rw [e_Z_law_697] at h
    have hp : pcO (K_Z_law.drop 710) = 1025 := by decide +kernel
    rw [← hp]
    refine S.2 _ ?_ 700 710 _ _ (ck1_of rfl) h
    intro k ls s h
    replace h := cbr_c h
    rcases h with ⟨hb, h⟩ | ⟨_, h⟩
    · cases beq_t hb
      exact a_Z_law S.1 h hk10
    cases h
set_option maxRecDepth 1000000 in
theorem n_Z_law_734 {scL : Nat} {scX : Nat → Int32} {z : Int32 × Mem} {RA : Nat → List (Option Value) → Mem → Prop} (S : SmL scL scX z RA) {k10 : Int32 → Mem → Option (Int32 × Mem)} (hk10 : ∀ (x3 : Int32) (s : Mem), k10 x3 s = some z → RA 18 [some (.ref 1000), some (.ref 0), some (.ref 123), some (.int x3)] s) : ∀ (n : Nat) (x3 : Int32) (s : Mem), F_Z_law_734 scL scX k10 n x3 s = some z → RA 1068 [some (.ref 1000), some (.ref 0), some (.ref 123), some (.int x3)] s := by
  intro n
  induction n with
  | zero => intro x3 s h; exact nomatch (show (none : Option (Int32 × Mem)) = some z from h)
  | succ n ih =>
    intro x3 s h
    rw [e_Z_law_734] at h
    have hp : pcO (K_Z_law.drop 748) = 1068 := by decide +kernel
    rw [← hp]
    refine S.2 _ ?_ 700 748 _ _ (ck1_of rfl) h
    intro k ls s h
    replace h := cbr_c h
    rcases h with ⟨hb, h⟩ | ⟨_, h⟩
    · cases beq_t hb
      exact a_Z_law S.1 h hk10
    cases h
set_option maxRecDepth 1000000 in
theorem n_Z_law_761 {scL : Nat} {scX : Nat → Int32} {z : Int32 × Mem} {RA : Nat → List (Option Value) → Mem → Prop} (S : SmL scL scX z RA) {k10 : Int32 → Mem → Option (Int32 × Mem)} (hk10 : ∀ (x3 : Int32) (s : Mem), k10 x3 s = some z → RA 18 [some (.ref 1000), some (.ref 0), some (.ref 123), some (.int x3)] s) : ∀ (n : Nat) (x3 : Int32) (s : Mem), F_Z_law_761 scL scX k10 n x3 s = some z → RA 1101 [some (.ref 1000), some (.ref 0), some (.ref 123), some (.int x3)] s := by
  intro n
  induction n with
  | zero => intro x3 s h; exact nomatch (show (none : Option (Int32 × Mem)) = some z from h)
  | succ n ih =>
    intro x3 s h
    rw [e_Z_law_761] at h
    have hp : pcO (K_Z_law.drop 776) = 1101 := by decide +kernel
    rw [← hp]
    refine S.2 _ ?_ 700 776 _ _ (ck1_of rfl) h
    intro k ls s h
    replace h := cbr_c h
    rcases h with ⟨hb, h⟩ | ⟨_, h⟩
    · cases beq_t hb
      exact a_Z_law S.1 h hk10
    cases h
set_option maxRecDepth 1000000 in
theorem n_Z_law_778 {scL : Nat} {scX : Nat → Int32} {z : Int32 × Mem} {RA : Nat → List (Option Value) → Mem → Prop} (S : SmL scL scX z RA) {k10 : Int32 → Mem → Option (Int32 × Mem)} (hk10 : ∀ (x3 : Int32) (s : Mem), k10 x3 s = some z → RA 18 [some (.ref 1000), some (.ref 0), some (.ref 123), some (.int x3)] s) : ∀ (n : Nat) (x3 : Int32) (s : Mem), F_Z_law_778 scL scX k10 n x3 s = some z → RA 1124 [some (.ref 1000), some (.ref 0), some (.ref 123), some (.int x3)] s := by
  intro n
  induction n with
  | zero => intro x3 s h; exact nomatch (show (none : Option (Int32 × Mem)) = some z from h)
  | succ n ih =>
    intro x3 s h
    rw [e_Z_law_778] at h
    have hp : pcO (K_Z_law.drop 794) = 1124 := by decide +kernel
    rw [← hp]
    refine S.2 _ ?_ 700 794 _ _ (ck1_of rfl) h
    intro k ls s h
    replace h := cbr_c h
    rcases h with ⟨hb, h⟩ | ⟨_, h⟩
    · cases beq_t hb
      exact a_Z_law S.1 h hk10
    cases h
set_option maxRecDepth 1000000 in
theorem n_Z_law_805 {scL : Nat} {scX : Nat → Int32} {z : Int32 × Mem} {RA : Nat → List (Option Value) → Mem → Prop} (S : SmL scL scX z RA) {k10 : Int32 → Mem → Option (Int32 × Mem)} (hk10 : ∀ (x3 : Int32) (s : Mem), k10 x3 s = some z → RA 18 [some (.ref 1000), some (.ref 0), some (.ref 123), some (.int x3)] s) : ∀ (n : Nat) (x3 : Int32) (s : Mem), F_Z_law_805 scL scX k10 n x3 s = some z → RA 1157 [some (.ref 1000), some (.ref 0), some (.ref 123), some (.int x3)] s := by
  intro n
  induction n with
  | zero => intro x3 s h; exact nomatch (show (none : Option (Int32 × Mem)) = some z from h)
  | succ n ih =>
    intro x3 s h
    rw [e_Z_law_805] at h
    have hp : pcO (K_Z_law.drop 822) = 1157 := by decide +kernel
    rw [← hp]
    refine S.2 _ ?_ 700 822 _ _ (ck1_of rfl) h
    intro k ls s h
    replace h := cbr_c h
    rcases h with ⟨hb, h⟩ | ⟨_, h⟩
    · cases beq_t hb
      exact a_Z_law S.1 h hk10
    cases h
set_option maxRecDepth 1000000 in
theorem n_Z_law_832 {scL : Nat} {scX : Nat → Int32} {z : Int32 × Mem} {RA : Nat → List (Option Value) → Mem → Prop} (S : SmL scL scX z RA) {k10 : Int32 → Mem → Option (Int32 × Mem)} (hk10 : ∀ (x3 : Int32) (s : Mem), k10 x3 s = some z → RA 18 [some (.ref 1000), some (.ref 0), some (.ref 123), some (.int x3)] s) : ∀ (n : Nat) (x3 : Int32) (s : Mem), F_Z_law_832 scL scX k10 n x3 s = some z → RA 1190 [some (.ref 1000), some (.ref 0), some (.ref 123), some (.int x3)] s := by
  intro n
  induction n with
  | zero => intro x3 s h; exact nomatch (show (none : Option (Int32 × Mem)) = some z from h)
  | succ n ih =>
    intro x3 s h
    rw [e_Z_law_832] at h
    have hp : pcO (K_Z_law.drop 850) = 1190 := by decide +kernel
    rw [← hp]
    refine S.2 _ ?_ 700 850 _ _ (ck1_of rfl) h
    intro k ls s h
    replace h := cbr_c h
    rcases h with ⟨hb, h⟩ | ⟨_, h⟩
    · cases beq_t hb
      exact a_Z_law S.1 h hk10
    cases h
set_option maxRecDepth 1000000 in
theorem n_Z_law_859 {scL : Nat} {scX : Nat → Int32} {z : Int32 × Mem} {RA : Nat → List (Option Value) → Mem → Prop} (S : SmL scL scX z RA) {k10 : Int32 → Mem → Option (Int32 × Mem)} (hk10 : ∀ (x3 : Int32) (s : Mem), k10 x3 s = some z → RA 18 [some (.ref 1000), some (.ref 0), some (.ref 123), some (.int x3)] s) : ∀ (n : Nat) (x3 : Int32) (s : Mem), F_Z_law_859 scL scX k10 n x3 s = some z → RA 1223 [some (.ref 1000), some (.ref 0), some (.ref 123), some (.int x3)] s := by
  intro n
  induction n with
  | zero => intro x3 s h; exact nomatch (show (none : Option (Int32 × Mem)) = some z from h)
  | succ n ih =>
    intro x3 s h
    rw [e_Z_law_859] at h
    have hp : pcO (K_Z_law.drop 878) = 1223 := by decide +kernel
    rw [← hp]
    refine S.2 _ ?_ 700 878 _ _ (ck1_of rfl) h
    intro k ls s h
    replace h := cbr_c h
    rcases h with ⟨hb, h⟩ | ⟨_, h⟩
    · cases beq_t hb
      exact a_Z_law S.1 h hk10
    cases h
set_option maxRecDepth 1000000 in
theorem n_Z_law_886 {scL : Nat} {scX : Nat → Int32} {z : Int32 × Mem} {RA : Nat → List (Option Value) → Mem → Prop} (S : SmL scL scX z RA) {k10 : Int32 → Mem → Option (Int32 × Mem)} (hk10 : ∀ (x3 : Int32) (s : Mem), k10 x3 s = some z → RA 18 [some (.ref 1000), some (.ref 0), some (.ref 123), some (.int x3)] s) : ∀ (n : Nat) (x3 : Int32) (s : Mem), F_Z_law_886 scL scX k10 n x3 s = some z → RA 1256 [some (.ref 1000), some (.ref 0), some (.ref 123), some (.int x3)] s := by
  intro n
  induction n with
  | zero => intro x3 s h; exact nomatch (show (none : Option (Int32 × Mem)) = some z from h)
  | succ n ih =>
    intro x3 s h
    rw [e_Z_law_886] at h
    have hp : pcO (K_Z_law.drop 906) = 1256 := by decide +kernel
    rw [← hp]
    refine S.2 _ ?_ 700 906 _ _ (ck1_of rfl) h
    intro k ls s h
    replace h := cbr_c h
    rcases h with ⟨hb, h⟩ | ⟨_, h⟩
    · cases beq_t hb
      exact a_Z_law S.1 h hk10
    cases h
set_option maxRecDepth 1000000 in
theorem n_Z_law_903 {scL : Nat} {scX : Nat → Int32} {z : Int32 × Mem} {RA : Nat → List (Option Value) → Mem → Prop} (S : SmL scL scX z RA) {k10 : Int32 → Mem → Option (Int32 × Mem)} (hk10 : ∀ (x3 : Int32) (s : Mem), k10 x3 s = some z → RA 18 [some (.ref 1000), some (.ref 0), some (.ref 123), some (.int x3)] s) : ∀ (n : Nat) (x3 : Int32) (s : Mem), F_Z_law_903 scL scX k10 n x3 s = some z → RA 1279 [some (.ref 1000), some (.ref 0), some (.ref 123), some (.int x3)] s := by
  intro n
  induction n with
  | zero => intro x3 s h; exact nomatch (show (none : Option (Int32 × Mem)) = some z from h)
  | succ n ih =>
    intro x3 s h
    rw [e_Z_law_903] at h
    have hp : pcO (K_Z_law.drop 924) = 1279 := by decide +kernel
    rw [← hp]
    refine S.2 _ ?_ 700 924 _ _ (ck1_of rfl) h
    intro k ls s h
    replace h := cbr_c h
    rcases h with ⟨hb, h⟩ | ⟨_, h⟩
    · cases beq_t hb
      exact a_Z_law S.1 h hk10
    cases h
set_option maxRecDepth 1000000 in
theorem n_Z_law_920 {scL : Nat} {scX : Nat → Int32} {z : Int32 × Mem} {RA : Nat → List (Option Value) → Mem → Prop} (S : SmL scL scX z RA) {k10 : Int32 → Mem → Option (Int32 × Mem)} (hk10 : ∀ (x3 : Int32) (s : Mem), k10 x3 s = some z → RA 18 [some (.ref 1000), some (.ref 0), some (.ref 123), some (.int x3)] s) : ∀ (n : Nat) (x3 : Int32) (s : Mem), F_Z_law_920 scL scX k10 n x3 s = some z → RA 1302 [some (.ref 1000), some (.ref 0), some (.ref 123), some (.int x3)] s := by
  intro n
  induction n with
  | zero => intro x3 s h; exact nomatch (show (none : Option (Int32 × Mem)) = some z from h)
  | succ n ih =>
    intro x3 s h
    rw [e_Z_law_920] at h
    have hp : pcO (K_Z_law.drop 942) = 1302 := by decide +kernel
    rw [← hp]
    refine S.2 _ ?_ 700 942 _ _ (ck1_of rfl) h
    intro k ls s h
    replace h := cbr_c h
    rcases h with ⟨hb, h⟩ | ⟨_, h⟩
    · cases beq_t hb
      exact a_Z_law S.1 h hk10
    cases h
set_option maxRecDepth 1000000 in
theorem n_Z_law_937 {scL : Nat} {scX : Nat → Int32} {z : Int32 × Mem} {RA : Nat → List (Option Value) → Mem → Prop} (S : SmL scL scX z RA) {k10 : Int32 → Mem → Option (Int32 × Mem)} (hk10 : ∀ (x3 : Int32) (s : Mem), k10 x3 s = some z → RA 18 [some (.ref 1000), some (.ref 0), some (.ref 123), some (.int x3)] s) : ∀ (n : Nat) (x3 : Int32) (s : Mem), F_Z_law_937 scL scX k10 n x3 s = some z → RA 1325 [some (.ref 1000), some (.ref 0), some (.ref 123), some (.int x3)] s := by
  intro n
  induction n with
  | zero => intro x3 s h; exact nomatch (show (none : Option (Int32 × Mem)) = some z from h)
  | succ n ih =>
    intro x3 s h
    rw [e_Z_law_937] at h
    have hp : pcO (K_Z_law.drop 960) = 1325 := by decide +kernel
    rw [← hp]
    refine S.2 _ ?_ 700 960 _ _ (ck1_of rfl) h
    intro k ls s h
    replace h := cbr_c h
    rcases h with ⟨hb, h⟩ | ⟨_, h⟩
    · cases beq_t hb
      exact a_Z_law S.1 h hk10
    cases h
set_option maxRecDepth 1000000 in
theorem n_Z_law_964 {scL : Nat} {scX : Nat → Int32} {z : Int32 × Mem} {RA : Nat → List (Option Value) → Mem → Prop} (S : SmL scL scX z RA) {k10 : Int32 → Mem → Option (Int32 × Mem)} (hk10 : ∀ (x3 : Int32) (s : Mem), k10 x3 s = some z → RA 18 [some (.ref 1000), some (.ref 0), some (.ref 123), some (.int x3)] s) : ∀ (n : Nat) (x3 : Int32) (s : Mem), F_Z_law_964 scL scX k10 n x3 s = some z → RA 1358 [some (.ref 1000), some (.ref 0), some (.ref 123), some (.int x3)] s := by
  intro n
  induction n with
  | zero => intro x3 s h; exact nomatch (show (none : Option (Int32 × Mem)) = some z from h)
  | succ n ih =>
    intro x3 s h
    rw [e_Z_law_964] at h
    have hp : pcO (K_Z_law.drop 988) = 1358 := by decide +kernel
    rw [← hp]
    refine S.2 _ ?_ 700 988 _ _ (ck1_of rfl) h
    intro k ls s h
    replace h := cbr_c h
    rcases h with ⟨hb, h⟩ | ⟨_, h⟩
    · cases beq_t hb
      exact a_Z_law S.1 h hk10
    cases h
set_option maxRecDepth 1000000 in
theorem n_Z_law_981 {scL : Nat} {scX : Nat → Int32} {z : Int32 × Mem} {RA : Nat → List (Option Value) → Mem → Prop} (S : SmL scL scX z RA) {k10 : Int32 → Mem → Option (Int32 × Mem)} (hk10 : ∀ (x3 : Int32) (s : Mem), k10 x3 s = some z → RA 18 [some (.ref 1000), some (.ref 0), some (.ref 123), some (.int x3)] s) : ∀ (n : Nat) (x3 : Int32) (s : Mem), F_Z_law_981 scL scX k10 n x3 s = some z → RA 1381 [some (.ref 1000), some (.ref 0), some (.ref 123), some (.int x3)] s := by
  intro n
  induction n with
  | zero => intro x3 s h; exact nomatch (show (none : Option (Int32 × Mem)) = some z from h)
  | succ n ih =>
    intro x3 s h
    rw [e_Z_law_981] at h
    have hp : pcO (K_Z_law.drop 1006) = 1381 := by decide +kernel
    rw [← hp]
    refine S.2 _ ?_ 700 1006 _ _ (ck1_of rfl) h
    intro k ls s h
    replace h := cbr_c h
    rcases h with ⟨hb, h⟩ | ⟨_, h⟩
    · cases beq_t hb
      exact a_Z_law S.1 h hk10
    cases h
set_option maxRecDepth 1000000 in
theorem n_Z_law_1008 {scL : Nat} {scX : Nat → Int32} {z : Int32 × Mem} {RA : Nat → List (Option Value) → Mem → Prop} (S : SmL scL scX z RA) {k10 : Int32 → Mem → Option (Int32 × Mem)} (hk10 : ∀ (x3 : Int32) (s : Mem), k10 x3 s = some z → RA 18 [some (.ref 1000), some (.ref 0), some (.ref 123), some (.int x3)] s) : ∀ (n : Nat) (x3 : Int32) (s : Mem), F_Z_law_1008 scL scX k10 n x3 s = some z → RA 1414 [some (.ref 1000), some (.ref 0), some (.ref 123), some (.int x3)] s := by
  intro n
  induction n with
  | zero => intro x3 s h; exact nomatch (show (none : Option (Int32 × Mem)) = some z from h)
  | succ n ih =>
    intro x3 s h
    rw [e_Z_law_1008] at h
    have hp : pcO (K_Z_law.drop 1034) = 1414 := by decide +kernel
    rw [← hp]
    refine S.2 _ ?_ 700 1034 _ _ (ck1_of rfl) h
    intro k ls s h
    replace h := cbr_c h
    rcases h with ⟨hb, h⟩ | ⟨_, h⟩
    · cases beq_t hb
      exact a_Z_law S.1 h hk10
    cases h
set_option maxRecDepth 1000000 in
theorem n_Z_law_1045 {scL : Nat} {scX : Nat → Int32} {z : Int32 × Mem} {RA : Nat → List (Option Value) → Mem → Prop} (S : SmL scL scX z RA) {k10 : Int32 → Mem → Option (Int32 × Mem)} (hk10 : ∀ (x3 : Int32) (s : Mem), k10 x3 s = some z → RA 18 [some (.ref 1000), some (.ref 0), some (.ref 123), some (.int x3)] s) : ∀ (n : Nat) (x3 : Int32) (s : Mem), F_Z_law_1045 scL scX k10 n x3 s = some z → RA 1457 [some (.ref 1000), some (.ref 0), some (.ref 123), some (.int x3)] s := by
  intro n
  induction n with
  | zero => intro x3 s h; exact nomatch (show (none : Option (Int32 × Mem)) = some z from h)
  | succ n ih =>
    intro x3 s h
    rw [e_Z_law_1045] at h
    have hp : pcO (K_Z_law.drop 1072) = 1457 := by decide +kernel
    rw [← hp]
    refine S.2 _ ?_ 700 1072 _ _ (ck1_of rfl) h
    intro k ls s h
    replace h := cbr_c h
    rcases h with ⟨hb, h⟩ | ⟨_, h⟩
    · cases beq_t hb
      exact a_Z_law S.1 h hk10
    cases h
set_option maxRecDepth 1000000 in
theorem n_Z_law_1062 {scL : Nat} {scX : Nat → Int32} {z : Int32 × Mem} {RA : Nat → List (Option Value) → Mem → Prop} (S : SmL scL scX z RA) {k10 : Int32 → Mem → Option (Int32 × Mem)} (hk10 : ∀ (x3 : Int32) (s : Mem), k10 x3 s = some z → RA 18 [some (.ref 1000), some (.ref 0), some (.ref 123), some (.int x3)] s) : ∀ (n : Nat) (x3 : Int32) (s : Mem), F_Z_law_1062 scL scX k10 n x3 s = some z → RA 1480 [some (.ref 1000), some (.ref 0), some (.ref 123), some (.int x3)] s := by
  intro n
  induction n with
  | zero => intro x3 s h; exact nomatch (show (none : Option (Int32 × Mem)) = some z from h)
  | succ n ih =>
    intro x3 s h
    rw [e_Z_law_1062] at h
    have hp : pcO (K_Z_law.drop 1090) = 1480 := by decide +kernel
    rw [← hp]
    refine S.2 _ ?_ 700 1090 _ _ (ck1_of rfl) h
    intro k ls s h
    replace h := cbr_c h
    rcases h with ⟨hb, h⟩ | ⟨_, h⟩
    · cases beq_t hb
      exact a_Z_law S.1 h hk10
    cases h
set_option maxRecDepth 1000000 in
theorem n_Z_law_1079 {scL : Nat} {scX : Nat → Int32} {z : Int32 × Mem} {RA : Nat → List (Option Value) → Mem → Prop} (S : SmL scL scX z RA) {k10 : Int32 → Mem → Option (Int32 × Mem)} (hk10 : ∀ (x3 : Int32) (s : Mem), k10 x3 s = some z → RA 18 [some (.ref 1000), some (.ref 0), some (.ref 123), some (.int x3)] s) : ∀ (n : Nat) (x3 : Int32) (s : Mem), F_Z_law_1079 scL scX k10 n x3 s = some z → RA 1503 [some (.ref 1000), some (.ref 0), some (.ref 123), some (.int x3)] s := by
  intro n
  induction n with
  | zero => intro x3 s h; exact nomatch (show (none : Option (Int32 × Mem)) = some z from h)
  | succ n ih =>
    intro x3 s h
    rw [e_Z_law_1079] at h
    have hp : pcO (K_Z_law.drop 1108) = 1503 := by decide +kernel
    rw [← hp]
    refine S.2 _ ?_ 700 1108 _ _ (ck1_of rfl) h
    intro k ls s h
    replace h := cbr_c h
    rcases h with ⟨hb, h⟩ | ⟨_, h⟩
    · cases beq_t hb
      exact a_Z_law S.1 h hk10
    cases h
set_option maxRecDepth 1000000 in
theorem n_Z_law_1106 {scL : Nat} {scX : Nat → Int32} {z : Int32 × Mem} {RA : Nat → List (Option Value) → Mem → Prop} (S : SmL scL scX z RA) {k10 : Int32 → Mem → Option (Int32 × Mem)} (hk10 : ∀ (x3 : Int32) (s : Mem), k10 x3 s = some z → RA 18 [some (.ref 1000), some (.ref 0), some (.ref 123), some (.int x3)] s) : ∀ (n : Nat) (x3 : Int32) (s : Mem), F_Z_law_1106 scL scX k10 n x3 s = some z → RA 1536 [some (.ref 1000), some (.ref 0), some (.ref 123), some (.int x3)] s := by
  intro n
  induction n with
  | zero => intro x3 s h; exact nomatch (show (none : Option (Int32 × Mem)) = some z from h)
  | succ n ih =>
    intro x3 s h
    rw [e_Z_law_1106] at h
    have hp : pcO (K_Z_law.drop 1136) = 1536 := by decide +kernel
    rw [← hp]
    refine S.2 _ ?_ 700 1136 _ _ (ck1_of rfl) h
    intro k ls s h
    replace h := cbr_c h
    rcases h with ⟨hb, h⟩ | ⟨_, h⟩
    · cases beq_t hb
      exact a_Z_law S.1 h hk10
    cases h
set_option maxRecDepth 1000000 in
theorem n_Z_law_1123 {scL : Nat} {scX : Nat → Int32} {z : Int32 × Mem} {RA : Nat → List (Option Value) → Mem → Prop} (S : SmL scL scX z RA) {k10 : Int32 → Mem → Option (Int32 × Mem)} (hk10 : ∀ (x3 : Int32) (s : Mem), k10 x3 s = some z → RA 18 [some (.ref 1000), some (.ref 0), some (.ref 123), some (.int x3)] s) : ∀ (n : Nat) (x3 : Int32) (s : Mem), F_Z_law_1123 scL scX k10 n x3 s = some z → RA 1559 [some (.ref 1000), some (.ref 0), some (.ref 123), some (.int x3)] s := by
  intro n
  induction n with
  | zero => intro x3 s h; exact nomatch (show (none : Option (Int32 × Mem)) = some z from h)
  | succ n ih =>
    intro x3 s h
    rw [e_Z_law_1123] at h
    have hp : pcO (K_Z_law.drop 1154) = 1559 := by decide +kernel
    rw [← hp]
    refine S.2 _ ?_ 700 1154 _ _ (ck1_of rfl) h
    intro k ls s h
    replace h := cbr_c h
    rcases h with ⟨hb, h⟩ | ⟨_, h⟩
    · cases beq_t hb
      exact a_Z_law S.1 h hk10
    cases h
set_option maxRecDepth 1000000 in
theorem n_Z_law_1130 {scL : Nat} {scX : Nat → Int32} {z : Int32 × Mem} {RA : Nat → List (Option Value) → Mem → Prop} (S : SmL scL scX z RA) {k10 : Int32 → Mem → Option (Int32 × Mem)} (hk10 : ∀ (x3 : Int32) (s : Mem), k10 x3 s = some z → RA 18 [some (.ref 1000), some (.ref 0), some (.ref 123), some (.int x3)] s) : ∀ (n : Nat) (x3 : Int32) (s : Mem), F_Z_law_1130 scL scX k10 n x3 s = some z → RA 1572 [some (.ref 1000), some (.ref 0), some (.ref 123), some (.int x3)] s := by
  intro n
  induction n with
  | zero => intro x3 s h; exact nomatch (show (none : Option (Int32 × Mem)) = some z from h)
  | succ n ih =>
    intro x3 s h
    rw [e_Z_law_1130] at h
    have hp : pcO (K_Z_law.drop 1162) = 1572 := by decide +kernel
    rw [← hp]
    refine S.2 _ ?_ 700 1162 _ _ (ck1_of rfl) h
    intro k ls s h
    replace h := cbr_c h
    rcases h with ⟨hb, h⟩ | ⟨_, h⟩
    · cases beq_t hb
      exact a_Z_law S.1 h hk10
    cases h
set_option maxRecDepth 1000000 in
theorem n_Z_law_1155 {scL : Nat} {scX : Nat → Int32} {z : Int32 × Mem} {RA : Nat → List (Option Value) → Mem → Prop} (S : SmL scL scX z RA) {k10 : Int32 → Mem → Option (Int32 × Mem)} (hk10 : ∀ (x3 : Int32) (s : Mem), k10 x3 s = some z → RA 18 [some (.ref 1000), some (.ref 0), some (.ref 123), some (.int x3)] s) : ∀ (n : Nat) (x3 : Int32) (s : Mem), F_Z_law_1155 scL scX k10 n x3 s = some z → RA 1611 [some (.ref 1000), some (.ref 0), some (.ref 123), some (.int x3)] s := by
  intro n
  induction n with
  | zero => intro x3 s h; exact nomatch (show (none : Option (Int32 × Mem)) = some z from h)
  | succ n ih =>
    intro x3 s h
    rw [e_Z_law_1155] at h
    have hp : pcO (K_Z_law.drop 1188) = 1611 := by decide +kernel
    rw [← hp]
    refine S.2 _ ?_ 700 1188 _ _ (ck1_of rfl) h
    intro k ls s h
    replace h := cbr_c h
    rcases h with ⟨hb, h⟩ | ⟨_, h⟩
    · cases beq_t hb
      exact a_Z_law S.1 h hk10
    cases h
set_option maxRecDepth 1000000 in
theorem n_Z_law_10 {scL : Nat} {scX : Nat → Int32} {z : Int32 × Mem} {RA : Nat → List (Option Value) → Mem → Prop} (S : SmL scL scX z RA) : ∀ (n : Nat) (x3 : Int32) (s : Mem), F_Z_law_10 scL scX n x3 s = some z → RA 18 [some (.ref 1000), some (.ref 0), some (.ref 123), some (.int x3)] s := by
  intro n
  induction n with
  | zero => intro x3 s h; exact nomatch (show (none : Option (Int32 × Mem)) = some z from h)
  | succ n ih =>
    intro x3 s h
    rw [e_Z_law_10] at h
    have hp : pcO (K_Z_law.drop 1) = 18 := by decide +kernel
    rw [← hp]
    refine S.2 _ ?_ 700 1 _ _ (ck1_of rfl) h
    intro k ls s h
    replace h := cbr_c h
    rcases h with ⟨hb, h⟩ | ⟨_, h⟩
    · cases beq_t hb
      exact a_Z_law S.1 h ih
    replace h := cbr_c h
    rcases h with ⟨hb, h⟩ | ⟨_, h⟩
    · cases beq_t hb
      exact a_Z_law S.1 h (n_Z_law_22 S ih gF)
    replace h := cbr_c h
    rcases h with ⟨hb, h⟩ | ⟨_, h⟩
    · cases beq_t hb
      exact a_Z_law S.1 h (n_Z_law_39 S ih gF)
    replace h := cbr_c h
    rcases h with ⟨hb, h⟩ | ⟨_, h⟩
    · cases beq_t hb
      exact a_Z_law S.1 h (n_Z_law_66 S ih gF)
    replace h := cbr_c h
    rcases h with ⟨hb, h⟩ | ⟨_, h⟩
    · cases beq_t hb
      exact a_Z_law S.1 h (n_Z_law_113 S ih gF)
    replace h := cbr_c h
    rcases h with ⟨hb, h⟩ | ⟨_, h⟩
    · cases beq_t hb
      exact a_Z_law S.1 h (n_Z_law_150 S ih gF)
    replace h := cbr_c h
    rcases h with ⟨hb, h⟩ | ⟨_, h⟩
    · cases beq_t hb
      exact a_Z_law S.1 h (n_Z_law_205 S ih gF)
    replace h := cbr_c h
    rcases h with ⟨hb, h⟩ | ⟨_, h⟩
    · cases beq_t hb
      exact a_Z_law S.1 h (n_Z_law_222 S ih gF)
    replace h := cbr_c h
    rcases h with ⟨hb, h⟩ | ⟨_, h⟩
    · cases beq_t hb
      exact a_Z_law S.1 h (n_Z_law_279 S ih gF)
    replace h := cbr_c h
    rcases h with ⟨hb, h⟩ | ⟨_, h⟩
    · cases beq_t hb
      exact a_Z_law S.1 h (n_Z_law_296 S ih gF)
    replace h := cbr_c h
    rcases h with ⟨hb, h⟩ | ⟨_, h⟩
    · cases beq_t hb
      exact a_Z_law S.1 h (n_Z_law_313 S ih gF)
    replace h := cbr_c h
    rcases h with ⟨hb, h⟩ | ⟨_, h⟩
    · cases beq_t hb
      exact a_Z_law S.1 h (n_Z_law_330 S ih gF)
    replace h := cbr_c h
    rcases h with ⟨hb, h⟩ | ⟨_, h⟩
    · cases beq_t hb
      exact a_Z_law S.1 h (n_Z_law_367 S ih gF)
    replace h := cbr_c h
    rcases h with ⟨hb, h⟩ | ⟨_, h⟩
    · cases beq_t hb
      exact a_Z_law S.1 h (n_Z_law_414 S ih gF)
    replace h := cbr_c h
    rcases h with ⟨hb, h⟩ | ⟨_, h⟩
    · cases beq_t hb
      exact a_Z_law S.1 h (n_Z_law_461 S ih gF)
    replace h := cbr_c h
    rcases h with ⟨hb, h⟩ | ⟨_, h⟩
    · cases beq_t hb
      exact a_Z_law S.1 h (n_Z_law_488 S ih gF)
    replace h := cbr_c h
    rcases h with ⟨hb, h⟩ | ⟨_, h⟩
    · cases beq_t hb
      exact a_Z_law S.1 h (n_Z_law_515 S ih gF)
    replace h := cbr_c h
    rcases h with ⟨hb, h⟩ | ⟨_, h⟩
    · cases beq_t hb
      exact a_Z_law S.1 h (n_Z_law_562 S ih gF)
    replace h := cbr_c h
    rcases h with ⟨hb, h⟩ | ⟨_, h⟩
    · cases beq_t hb
      exact a_Z_law S.1 h (n_Z_law_589 S ih gF)
    replace h := cbr_c h
    rcases h with ⟨hb, h⟩ | ⟨_, h⟩
    · cases beq_t hb
      exact a_Z_law S.1 h (n_Z_law_626 S ih gF)
    replace h := cbr_c h
    rcases h with ⟨hb, h⟩ | ⟨_, h⟩
    · cases beq_t hb
      exact a_Z_law S.1 h (n_Z_law_663 S ih gF)
    replace h := cbr_c h
    rcases h with ⟨hb, h⟩ | ⟨_, h⟩
    · cases beq_t hb
      exact a_Z_law S.1 h (n_Z_law_680 S ih gF)
    replace h := cbr_c h
    rcases h with ⟨hb, h⟩ | ⟨_, h⟩
    · cases beq_t hb
      exact a_Z_law S.1 h (n_Z_law_697 S ih gF)
    replace h := cbr_c h
    rcases h with ⟨hb, h⟩ | ⟨_, h⟩
    · cases beq_t hb
      exact a_Z_law S.1 h (n_Z_law_734 S ih gF)
    replace h := cbr_c h
    rcases h with ⟨hb, h⟩ | ⟨_, h⟩
    · cases beq_t hb
      exact a_Z_law S.1 h (n_Z_law_761 S ih gF)
    replace h := cbr_c h
    rcases h with ⟨hb, h⟩ | ⟨_, h⟩
    · cases beq_t hb
      exact a_Z_law S.1 h (n_Z_law_778 S ih gF)
    replace h := cbr_c h
    rcases h with ⟨hb, h⟩ | ⟨_, h⟩
    · cases beq_t hb
      exact a_Z_law S.1 h (n_Z_law_805 S ih gF)
    replace h := cbr_c h
    rcases h with ⟨hb, h⟩ | ⟨_, h⟩
    · cases beq_t hb
      exact a_Z_law S.1 h (n_Z_law_832 S ih gF)
    replace h := cbr_c h
    rcases h with ⟨hb, h⟩ | ⟨_, h⟩
    · cases beq_t hb
      exact a_Z_law S.1 h (n_Z_law_859 S ih gF)
    replace h := cbr_c h
    rcases h with ⟨hb, h⟩ | ⟨_, h⟩
    · cases beq_t hb
      exact a_Z_law S.1 h (n_Z_law_886 S ih gF)
    replace h := cbr_c h
    rcases h with ⟨hb, h⟩ | ⟨_, h⟩
    · cases beq_t hb
      exact a_Z_law S.1 h (n_Z_law_903 S ih gF)
    replace h := cbr_c h
    rcases h with ⟨hb, h⟩ | ⟨_, h⟩
    · cases beq_t hb
      exact a_Z_law S.1 h (n_Z_law_920 S ih gF)
    replace h := cbr_c h
    rcases h with ⟨hb, h⟩ | ⟨_, h⟩
    · cases beq_t hb
      exact a_Z_law S.1 h (n_Z_law_937 S ih gF)
    replace h := cbr_c h
    rcases h with ⟨hb, h⟩ | ⟨_, h⟩
    · cases beq_t hb
      exact a_Z_law S.1 h (n_Z_law_964 S ih gF)
    replace h := cbr_c h
    rcases h with ⟨hb, h⟩ | ⟨_, h⟩
    · cases beq_t hb
      exact a_Z_law S.1 h (n_Z_law_981 S ih gF)
    replace h := cbr_c h
    rcases h with ⟨hb, h⟩ | ⟨_, h⟩
    · cases beq_t hb
      exact a_Z_law S.1 h (n_Z_law_1008 S ih gF)
    replace h := cbr_c h
    rcases h with ⟨hb, h⟩ | ⟨_, h⟩
    · cases beq_t hb
      exact a_Z_law S.1 h (n_Z_law_1045 S ih gF)
    replace h := cbr_c h
    rcases h with ⟨hb, h⟩ | ⟨_, h⟩
    · cases beq_t hb
      exact a_Z_law S.1 h (n_Z_law_1062 S ih gF)
    replace h := cbr_c h
    rcases h with ⟨hb, h⟩ | ⟨_, h⟩
    · cases beq_t hb
      exact a_Z_law S.1 h (n_Z_law_1079 S ih gF)
    replace h := cbr_c h
    rcases h with ⟨hb, h⟩ | ⟨_, h⟩
    · cases beq_t hb
      exact a_Z_law S.1 h (n_Z_law_1106 S ih gF)
    replace h := cbr_c h
    rcases h with ⟨hb, h⟩ | ⟨_, h⟩
    · cases beq_t hb
      exact a_Z_law S.1 h (n_Z_law_1123 S ih gF)
    replace h := cbr_c h
    rcases h with ⟨hb, h⟩ | ⟨_, h⟩
    · cases beq_t hb
      exact a_Z_law S.1 h (n_Z_law_1130 S ih gF)
    replace h := cbr_c h
    rcases h with ⟨hb, h⟩ | ⟨_, h⟩
    · cases beq_t hb
      exact a_Z_law S.1 h (n_Z_law_1155 S ih gF)
    cases h
