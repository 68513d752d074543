/-! The law: its loop. Printed by gen_methods.py. -/
def tb_Law_law : List (Nat × Instr × Nat) := [(0, .new 7, 3), (3, .dup, 1), (4, .invokespecial 9, 3), (7, .astore_n 1, 1), (8, .new 10, 3), (11, .dup, 1), (12, .invokespecial 12, 3), (15, .astore_n 2, 1), (16, .iconst 0, 1), (17, .istore_n 3, 1), (18, .iload_n 3, 1), (19, .aload_n 0, 1), (20, .arraylength, 1), (21, .iconst 5, 1), (22, .isub, 1), (23, .if_icmp .gt 651, 3), (26, .aload_n 0, 1), (27, .iload_n 3, 1), (28, .iaload, 1), (29, .bipush 31, 2), (31, .iand, 1), (32, .tableswitch 636 0 16 #[84, 109, 132, 165, 198, 211, 234, 245, 288, 341, 394, 467, 480, 493, 516, 549, 622], 84), (116, .aload_n 1, 1), (117, .aload_n 0, 1), (118, .iload_n 3, 1), (119, .iconst 1, 1), (120, .iadd, 1), (121, .iaload, 1), (122, .i2c, 1), (123, .invokevirtual 13, 3), (126, .aload_n 2, 1), (127, .aload_n 0, 1), (128, .iload_n 3, 1), (129, .iconst 1, 1), (130, .iadd, 1), (131, .iaload, 1), (132, .i2c, 1), (133, .invokevirtual 17, 3), (136, .if_icmp .eq 532, 3), (139, .iconst 0, 1), (140, .ireturn, 1), (141, .aload_n 1, 1), (142, .aload_n 0, 1), (143, .iload_n 3, 1), (144, .iconst 1, 1), (145, .iadd, 1), (146, .iaload, 1), (147, .invokevirtual 18, 3), (150, .aload_n 2, 1), (151, .aload_n 0, 1), (152, .iload_n 3, 1), (153, .iconst 1, 1), (154, .iadd, 1), (155, .iaload, 1), (156, .invokevirtual 22, 3), (159, .if_icmp .eq 509, 3), (162, .iconst 0, 1), (163, .ireturn, 1), (164, .aload_n 1, 1), (165, .aload_n 0, 1), (166, .iload_n 3, 1), (167, .iconst 1, 1), (168, .iadd, 1), (169, .iaload, 1), (170, .aload_n 0, 1), (171, .iload_n 3, 1), (172, .iconst 2, 1), (173, .iadd, 1), (174, .iaload, 1), (175, .invokevirtual 23, 3), (178, .aload_n 2, 1), (179, .aload_n 0, 1), (180, .iload_n 3, 1), (181, .iconst 1, 1), (182, .iadd, 1), (183, .iaload, 1), (184, .aload_n 0, 1), (185, .iload_n 3, 1), (186, .iconst 2, 1), (187, .iadd, 1), (188, .iaload, 1), (189, .invokevirtual 27, 3), (192, .if_icmp .eq 476, 3), (195, .iconst 0, 1), (196, .ireturn, 1), (197, .aload_n 1, 1), (198, .aload_n 0, 1), (199, .iload_n 3, 1), (200, .iconst 1, 1), (201, .iadd, 1), (202, .iaload, 1), (203, .aload_n 0, 1), (204, .iload_n 3, 1), (205, .iconst 2, 1), (206, .iadd, 1), (207, .iaload, 1), (208, .invokevirtual 28, 3), (211, .aload_n 2, 1), (212, .aload_n 0, 1), (213, .iload_n 3, 1), (214, .iconst 1, 1), (215, .iadd, 1), (216, .iaload, 1), (217, .aload_n 0, 1), (218, .iload_n 3, 1), (219, .iconst 2, 1), (220, .iadd, 1), (221, .iaload, 1), (222, .invokevirtual 31, 3), (225, .if_icmp .eq 443, 3), (228, .iconst 0, 1), (229, .ireturn, 1), (230, .aload_n 1, 1), (231, .invokevirtual 32, 3), (234, .aload_n 2, 1), (235, .invokevirtual 36, 3), (238, .if_icmp .eq 430, 3), (241, .iconst 0, 1), (242, .ireturn, 1), (243, .aload_n 1, 1), (244, .aload_n 0, 1), (245, .iload_n 3, 1), (246, .iconst 1, 1), (247, .iadd, 1), (248, .iaload, 1), (249, .invokevirtual 37, 3), (252, .aload_n 2, 1), (253, .aload_n 0, 1), (254, .iload_n 3, 1), (255, .iconst 1, 1), (256, .iadd, 1), (257, .iaload, 1), (258, .invokevirtual 41, 3), (261, .if_icmp .eq 407, 3), (264, .iconst 0, 1), (265, .ireturn, 1), (266, .aload_n 1, 1), (267, .invokevirtual 42, 3), (270, .aload_n 2, 1), (271, .invokevirtual 45, 3), (274, .goto 394, 3), (277, .aload_n 1, 1), (278, .aload_n 0, 1), (279, .iload_n 3, 1), (280, .iconst 1, 1), (281, .iadd, 1), (282, .iaload, 1), (283, .aload_n 0, 1), (284, .iload_n 3, 1), (285, .iconst 2, 1), (286, .iadd, 1), (287, .iaload, 1), (288, .aload_n 0, 1), (289, .iload_n 3, 1), (290, .iconst 3, 1), (291, .iadd, 1), (292, .iaload, 1), (293, .invokevirtual 46, 3), (296, .aload_n 2, 1), (297, .aload_n 0, 1), (298, .iload_n 3, 1), (299, .iconst 1, 1), (300, .iadd, 1), (301, .iaload, 1), (302, .aload_n 0, 1), (303, .iload_n 3, 1), (304, .iconst 2, 1), (305, .iadd, 1), (306, .iaload, 1), (307, .aload_n 0, 1), (308, .iload_n 3, 1), (309, .iconst 3, 1), (310, .iadd, 1), (311, .iaload, 1), (312, .invokevirtual 50, 3), (315, .if_icmp .eq 353, 3), (318, .iconst 0, 1), (319, .ireturn, 1), (320, .aload_n 1, 1), (321, .aload_n 0, 1), (322, .iload_n 3, 1), (323, .iconst 1, 1), (324, .iadd, 1), (325, .iaload, 1), (326, .aload_n 0, 1), (327, .iload_n 3, 1), (328, .iconst 2, 1), (329, .iadd, 1), (330, .iaload, 1), (331, .aload_n 0, 1), (332, .iload_n 3, 1), (333, .iconst 3, 1), (334, .iadd, 1), (335, .iaload, 1), (336, .aload_n 0, 1), (337, .iload_n 3, 1), (338, .iconst 4, 1), (339, .iadd, 1), (340, .iaload, 1), (341, .invokevirtual 51, 3), (344, .aload_n 2, 1), (345, .aload_n 0, 1), (346, .iload_n 3, 1), (347, .iconst 1, 1), (348, .iadd, 1), (349, .iaload, 1), (350, .aload_n 0, 1), (351, .iload_n 3, 1), (352, .iconst 2, 1), (353, .iadd, 1), (354, .iaload, 1), (355, .aload_n 0, 1), (356, .iload_n 3, 1), (357, .iconst 3, 1), (358, .iadd, 1), (359, .iaload, 1), (360, .aload_n 0, 1), (361, .iload_n 3, 1), (362, .iconst 4, 1), (363, .iadd, 1), (364, .iaload, 1), (365, .invokevirtual 55, 3), (368, .if_icmp .eq 300, 3), (371, .iconst 0, 1), (372, .ireturn, 1), (373, .aload_n 1, 1), (374, .aload_n 0, 1), (375, .iload_n 3, 1), (376, .iconst 1, 1), (377, .iadd, 1), (378, .iaload, 1), (379, .aload_n 0, 1), (380, .iload_n 3, 1), (381, .iconst 2, 1), (382, .iadd, 1), (383, .iaload, 1), (384, .aload_n 0, 1), (385, .iload_n 3, 1), (386, .iconst 3, 1), (387, .iadd, 1), (388, .iaload, 1), (389, .aload_n 0, 1), (390, .iload_n 3, 1), (391, .iconst 4, 1), (392, .iadd, 1), (393, .iaload, 1), (394, .invokevirtual 56, 3), (397, .aload_n 2, 1), (398, .aload_n 0, 1), (399, .iload_n 3, 1), (400, .iconst 1, 1), (401, .iadd, 1), (402, .iaload, 1), (403, .aload_n 0, 1), (404, .iload_n 3, 1), (405, .iconst 2, 1), (406, .iadd, 1), (407, .iaload, 1), (408, .aload_n 0, 1), (409, .iload_n 3, 1), (410, .iconst 3, 1), (411, .iadd, 1), (412, .iaload, 1), (413, .aload_n 0, 1), (414, .iload_n 3, 1), (415, .iconst 4, 1), (416, .iadd, 1), (417, .iaload, 1), (418, .invokevirtual 59, 3), (421, .if_icmp .eq 247, 3), (424, .iconst 0, 1), (425, .ireturn, 1), (426, .aload_n 1, 1), (427, .aload_n 0, 1), (428, .iload_n 3, 1), (429, .iconst 1, 1), (430, .iadd, 1), (431, .iaload, 1), (432, .aload_n 0, 1), (433, .iload_n 3, 1), (434, .iconst 2, 1), (435, .iadd, 1), (436, .iaload, 1), (437, .aload_n 0, 1), (438, .iload_n 3, 1), (439, .iconst 3, 1), (440, .iadd, 1), (441, .iaload, 1), (442, .i2l, 1), (443, .bipush 32, 2), (445, .lshl, 1), (446, .aload_n 0, 1), (447, .iload_n 3, 1), (448, .iconst 4, 1), (449, .iadd, 1), (450, .iaload, 1), (451, .i2l, 1), (452, .ldc2_w 60, 3), (455, .land, 1), (456, .lor, 1), (457, .invokevirtual 62, 3), (460, .aload_n 2, 1), (461, .aload_n 0, 1), (462, .iload_n 3, 1), (463, .iconst 1, 1), (464, .iadd, 1), (465, .iaload, 1), (466, .aload_n 0, 1), (467, .iload_n 3, 1), (468, .iconst 2, 1), (469, .iadd, 1), (470, .iaload, 1), (471, .aload_n 0, 1), (472, .iload_n 3, 1), (473, .iconst 3, 1), (474, .iadd, 1), (475, .iaload, 1), (476, .i2l, 1), (477, .bipush 32, 2), (479, .lshl, 1), (480, .aload_n 0, 1), (481, .iload_n 3, 1), (482, .iconst 4, 1), (483, .iadd, 1), (484, .iaload, 1), (485, .i2l, 1), (486, .ldc2_w 60, 3), (489, .land, 1), (490, .lor, 1), (491, .invokevirtual 66, 3), (494, .if_icmp .eq 174, 3), (497, .iconst 0, 1), (498, .ireturn, 1), (499, .aload_n 1, 1), (500, .invokevirtual 67, 3), (503, .aload_n 2, 1), (504, .invokevirtual 70, 3), (507, .if_icmp .eq 161, 3), (510, .iconst 0, 1), (511, .ireturn, 1), (512, .aload_n 1, 1), (513, .invokevirtual 71, 3), (516, .aload_n 2, 1), (517, .invokevirtual 74, 3), (520, .if_icmp .eq 148, 3), (523, .iconst 0, 1), (524, .ireturn, 1), (525, .aload_n 1, 1), (526, .aload_n 0, 1), (527, .iload_n 3, 1), (528, .iconst 1, 1), (529, .iadd, 1), (530, .iaload, 1), (531, .invokevirtual 75, 3), (534, .aload_n 2, 1), (535, .aload_n 0, 1), (536, .iload_n 3, 1), (537, .iconst 1, 1), (538, .iadd, 1), (539, .iaload, 1), (540, .invokevirtual 78, 3), (543, .if_icmp .eq 125, 3), (546, .iconst 0, 1), (547, .ireturn, 1), (548, .aload_n 1, 1), (549, .aload_n 0, 1), (550, .iload_n 3, 1), (551, .iconst 1, 1), (552, .iadd, 1), (553, .iaload, 1), (554, .aload_n 0, 1), (555, .iload_n 3, 1), (556, .iconst 2, 1), (557, .iadd, 1), (558, .iaload, 1), (559, .invokevirtual 79, 3), (562, .aload_n 2, 1), (563, .aload_n 0, 1), (564, .iload_n 3, 1), (565, .iconst 1, 1), (566, .iadd, 1), (567, .iaload, 1), (568, .aload_n 0, 1), (569, .iload_n 3, 1), (570, .iconst 2, 1), (571, .iadd, 1), (572, .iaload, 1), (573, .invokevirtual 83, 3), (576, .if_icmp .eq 92, 3), (579, .iconst 0, 1), (580, .ireturn, 1), (581, .aload_n 1, 1), (582, .aload_n 0, 1), (583, .iload_n 3, 1), (584, .iconst 1, 1), (585, .iadd, 1), (586, .iaload, 1), (587, .aload_n 0, 1), (588, .iload_n 3, 1), (589, .iconst 2, 1), (590, .iadd, 1), (591, .iaload, 1), (592, .aload_n 0, 1), (593, .iload_n 3, 1), (594, .iconst 3, 1), (595, .iadd, 1), (596, .iaload, 1), (597, .i2l, 1), (598, .bipush 32, 2), (600, .lshl, 1), (601, .aload_n 0, 1), (602, .iload_n 3, 1), (603, .iconst 4, 1), (604, .iadd, 1), (605, .iaload, 1), (606, .i2l, 1), (607, .ldc2_w 60, 3), (610, .land, 1), (611, .lor, 1), (612, .invokevirtual 84, 3), (615, .aload_n 2, 1), (616, .aload_n 0, 1), (617, .iload_n 3, 1), (618, .iconst 1, 1), (619, .iadd, 1), (620, .iaload, 1), (621, .aload_n 0, 1), (622, .iload_n 3, 1), (623, .iconst 2, 1), (624, .iadd, 1), (625, .iaload, 1), (626, .aload_n 0, 1), (627, .iload_n 3, 1), (628, .iconst 3, 1), (629, .iadd, 1), (630, .iaload, 1), (631, .i2l, 1), (632, .bipush 32, 2), (634, .lshl, 1), (635, .aload_n 0, 1), (636, .iload_n 3, 1), (637, .iconst 4, 1), (638, .iadd, 1), (639, .iaload, 1), (640, .i2l, 1), (641, .ldc2_w 60, 3), (644, .land, 1), (645, .lor, 1), (646, .invokevirtual 87, 3), (649, .if_icmp .eq 19, 3), (652, .iconst 0, 1), (653, .ireturn, 1), (654, .aload_n 1, 1), (655, .invokevirtual 88, 3), (658, .aload_n 2, 1), (659, .invokevirtual 92, 3), (662, .lcmp, 1), (663, .ifCond .eq 5, 3), (666, .iconst 0, 1), (667, .ireturn, 1), (668, .iinc 3 5, 3), (671, .goto (-653), 3), (674, .iconst 1, 1), (675, .ireturn, 1)]
def Y_Law_law : ax_Y := (⟨"MethodWardenLaw", "law", "([I)Z"⟩, code, 4, some .boolean, tb_Law_law)
theorem dcd_Law_law : ∀ e ∈ tb_Law_law, decode code e.1 = .ok e.2 := by decide +kernel
theorem ml_Law_13 : mlV "MethodWardenLaw" 13 Y_MW_type 1 := ⟨⟨yok_MW_type, by decide +kernel, by decide⟩, Or.inl (inWG 443 (by decide +kernel) (by decide +kernel)), inWG 444 (by decide +kernel) (by decide +kernel), inWG 445 (by decide +kernel) (by decide +kernel)⟩
theorem ml_Law_17 : mlV "MethodWardenLaw" 17 Y_Mod_type 1 := ⟨⟨yok_Mod_type, by decide +kernel, by decide⟩, Or.inl (inWG 1272 (by decide +kernel) (by decide +kernel)), inWG 1273 (by decide +kernel) (by decide +kernel), inWG 1274 (by decide +kernel) (by decide +kernel)⟩
theorem ml_Law_18 : mlV "MethodWardenLaw" 18 Y_MW_define 1 := ⟨⟨yok_MW_define, by decide +kernel, by decide⟩, Or.inl (inWG 451 (by decide +kernel) (by decide +kernel)), inWG 452 (by decide +kernel) (by decide +kernel), inWG 453 (by decide +kernel) (by decide +kernel)⟩
theorem ml_Law_22 : mlV "MethodWardenLaw" 22 Y_Mod_define 1 := ⟨⟨yok_Mod_define, by decide +kernel, by decide⟩, Or.inl (inWG 1276 (by decide +kernel) (by decide +kernel)), inWG 1277 (by decide +kernel) (by decide +kernel), inWG 1278 (by decide +kernel) (by decide +kernel)⟩
theorem ml_Law_23 : mlV "MethodWardenLaw" 23 Y_MW_senior 2 := ⟨⟨yok_MW_senior, by decide +kernel, by decide⟩, Or.inl (inWG 682 (by decide +kernel) (by decide +kernel)), inWG 683 (by decide +kernel) (by decide +kernel), inWG 684 (by decide +kernel) (by decide +kernel)⟩
theorem ml_Law_27 : mlV "MethodWardenLaw" 27 Y_Mod_senior 2 := ⟨⟨yok_Mod_senior, by decide +kernel, by decide⟩, Or.inl (inWG 1343 (by decide +kernel) (by decide +kernel)), inWG 1344 (by decide +kernel) (by decide +kernel), inWG 1345 (by decide +kernel) (by decide +kernel)⟩
theorem ml_Law_28 : mlV "MethodWardenLaw" 28 Y_MW_login 2 := ⟨⟨yok_MW_login, by decide +kernel, by decide⟩, Or.inl (inWG 696 (by decide +kernel) (by decide +kernel)), inWG 697 (by decide +kernel) (by decide +kernel), inWG 698 (by decide +kernel) (by decide +kernel)⟩
theorem ml_Law_31 : mlV "MethodWardenLaw" 31 Y_Mod_login 2 := ⟨⟨yok_Mod_login, by decide +kernel, by decide⟩, Or.inl (inWG 1351 (by decide +kernel) (by decide +kernel)), inWG 1352 (by decide +kernel) (by decide +kernel), inWG 1353 (by decide +kernel) (by decide +kernel)⟩
theorem ml_Law_32 : mlV "MethodWardenLaw" 32 Y_MW_context 0 := ⟨⟨yok_MW_context, by decide +kernel, by decide⟩, Or.inl (inWG 716 (by decide +kernel) (by decide +kernel)), inWG 717 (by decide +kernel) (by decide +kernel), inWG 718 (by decide +kernel) (by decide +kernel)⟩
theorem ml_Law_36 : mlV "MethodWardenLaw" 36 Y_Mod_context 0 := ⟨⟨yok_Mod_context, by decide +kernel, by decide⟩, Or.inl (inWG 1356 (by decide +kernel) (by decide +kernel)), inWG 1357 (by decide +kernel) (by decide +kernel), inWG 1358 (by decide +kernel) (by decide +kernel)⟩
theorem ml_Law_37 : mlV "MethodWardenLaw" 37 Y_MW_add 1 := ⟨⟨yok_MW_add, by decide +kernel, by decide⟩, Or.inl (inWG 729 (by decide +kernel) (by decide +kernel)), inWG 730 (by decide +kernel) (by decide +kernel), inWG 731 (by decide +kernel) (by decide +kernel)⟩
theorem ml_Law_41 : mlV "MethodWardenLaw" 41 Y_Mod_add 1 := ⟨⟨yok_Mod_add, by decide +kernel, by decide⟩, Or.inl (inWG 1361 (by decide +kernel) (by decide +kernel)), inWG 1362 (by decide +kernel) (by decide +kernel), inWG 1363 (by decide +kernel) (by decide +kernel)⟩
theorem ml_Law_42 : mlV "MethodWardenLaw" 42 Y_MW_empty 0 := ⟨⟨yok_MW_empty, by decide +kernel, by decide⟩, Or.inl (inWG 737 (by decide +kernel) (by decide +kernel)), inWG 738 (by decide +kernel) (by decide +kernel), inWG 739 (by decide +kernel) (by decide +kernel)⟩
theorem ml_Law_45 : mlV "MethodWardenLaw" 45 Y_Mod_empty 0 := ⟨⟨yok_Mod_empty, by decide +kernel, by decide⟩, Or.inl (inWG 1365 (by decide +kernel) (by decide +kernel)), inWG 1366 (by decide +kernel) (by decide +kernel), inWG 1367 (by decide +kernel) (by decide +kernel)⟩
theorem ml_Law_46 : mlV "MethodWardenLaw" 46 Y_MW_guard 3 := ⟨⟨yok_MW_guard, by decide +kernel, by decide⟩, Or.inl (inWG 745 (by decide +kernel) (by decide +kernel)), inWG 746 (by decide +kernel) (by decide +kernel), inWG 747 (by decide +kernel) (by decide +kernel)⟩
theorem ml_Law_50 : mlV "MethodWardenLaw" 50 Y_Mod_guard 3 := ⟨⟨yok_Mod_guard, by decide +kernel, by decide⟩, Or.inl (inWG 1369 (by decide +kernel) (by decide +kernel)), inWG 1370 (by decide +kernel) (by decide +kernel), inWG 1371 (by decide +kernel) (by decide +kernel)⟩
theorem ml_Law_51 : mlV "MethodWardenLaw" 51 Y_MW_rules 4 := ⟨⟨yok_MW_rules, by decide +kernel, by decide⟩, Or.inl (inWG 769 (by decide +kernel) (by decide +kernel)), inWG 770 (by decide +kernel) (by decide +kernel), inWG 771 (by decide +kernel) (by decide +kernel)⟩
theorem ml_Law_55 : mlV "MethodWardenLaw" 55 Y_Mod_rules 4 := ⟨⟨yok_Mod_rules, by decide +kernel, by decide⟩, Or.inl (inWG 1377 (by decide +kernel) (by decide +kernel)), inWG 1378 (by decide +kernel) (by decide +kernel), inWG 1379 (by decide +kernel) (by decide +kernel)⟩
theorem ml_Law_56 : mlV "MethodWardenLaw" 56 Y_MW_target 4 := ⟨⟨yok_MW_target, by decide +kernel, by decide⟩, Or.inl (inWG 784 (by decide +kernel) (by decide +kernel)), inWG 785 (by decide +kernel) (by decide +kernel), inWG 786 (by decide +kernel) (by decide +kernel)⟩
theorem ml_Law_59 : mlV "MethodWardenLaw" 59 Y_Mod_target 4 := ⟨⟨yok_Mod_target, by decide +kernel, by decide⟩, Or.inl (inWG 1381 (by decide +kernel) (by decide +kernel)), inWG 1382 (by decide +kernel) (by decide +kernel), inWG 1383 (by decide +kernel) (by decide +kernel)⟩
theorem ml_Law_62 : mlV "MethodWardenLaw" 62 Y_MW_call 3 := ⟨⟨yok_MW_call, by decide +kernel, by decide⟩, Or.inl (inWG 795 (by decide +kernel) (by decide +kernel)), inWG 796 (by decide +kernel) (by decide +kernel), inWG 797 (by decide +kernel) (by decide +kernel)⟩
theorem ml_Law_66 : mlV "MethodWardenLaw" 66 Y_Mod_call 3 := ⟨⟨yok_Mod_call, by decide +kernel, by decide⟩, Or.inl (inWG 1385 (by decide +kernel) (by decide +kernel)), inWG 1386 (by decide +kernel) (by decide +kernel), inWG 1387 (by decide +kernel) (by decide +kernel)⟩
theorem ml_Law_67 : mlV "MethodWardenLaw" 67 Y_MW_kind 0 := ⟨⟨yok_MW_kind, by decide +kernel, by decide⟩, Or.inl (inWG 1032 (by decide +kernel) (by decide +kernel)), inWG 1033 (by decide +kernel) (by decide +kernel), inWG 1034 (by decide +kernel) (by decide +kernel)⟩
theorem ml_Law_70 : mlV "MethodWardenLaw" 70 Y_Mod_kind 0 := ⟨⟨yok_Mod_kind, by decide +kernel, by decide⟩, Or.inl (inWG 1494 (by decide +kernel) (by decide +kernel)), inWG 1495 (by decide +kernel) (by decide +kernel), inWG 1496 (by decide +kernel) (by decide +kernel)⟩
theorem ml_Law_71 : mlV "MethodWardenLaw" 71 Y_MW_number 0 := ⟨⟨yok_MW_number, by decide +kernel, by decide⟩, Or.inl (inWG 1040 (by decide +kernel) (by decide +kernel)), inWG 1041 (by decide +kernel) (by decide +kernel), inWG 1042 (by decide +kernel) (by decide +kernel)⟩
theorem ml_Law_74 : mlV "MethodWardenLaw" 74 Y_Mod_number 0 := ⟨⟨yok_Mod_number, by decide +kernel, by decide⟩, Or.inl (inWG 1498 (by decide +kernel) (by decide +kernel)), inWG 1499 (by decide +kernel) (by decide +kernel), inWG 1500 (by decide +kernel) (by decide +kernel)⟩
theorem ml_Law_75 : mlV "MethodWardenLaw" 75 Y_MW_itemAt 1 := ⟨⟨yok_MW_itemAt, by decide +kernel, by decide⟩, Or.inl (inWG 1052 (by decide +kernel) (by decide +kernel)), inWG 1053 (by decide +kernel) (by decide +kernel), inWG 1054 (by decide +kernel) (by decide +kernel)⟩
theorem ml_Law_78 : mlV "MethodWardenLaw" 78 Y_Mod_itemAt 1 := ⟨⟨yok_Mod_itemAt, by decide +kernel, by decide⟩, Or.inl (inWG 1502 (by decide +kernel) (by decide +kernel)), inWG 1503 (by decide +kernel) (by decide +kernel), inWG 1504 (by decide +kernel) (by decide +kernel)⟩
theorem ml_Law_79 : mlV "MethodWardenLaw" 79 Y_MW_count 2 := ⟨⟨yok_MW_count, by decide +kernel, by decide⟩, Or.inl (inWG 1061 (by decide +kernel) (by decide +kernel)), inWG 1062 (by decide +kernel) (by decide +kernel), inWG 1063 (by decide +kernel) (by decide +kernel)⟩
theorem ml_Law_83 : mlV "MethodWardenLaw" 83 Y_Mod_count 2 := ⟨⟨yok_Mod_count, by decide +kernel, by decide⟩, Or.inl (inWG 1506 (by decide +kernel) (by decide +kernel)), inWG 1507 (by decide +kernel) (by decide +kernel), inWG 1508 (by decide +kernel) (by decide +kernel)⟩
theorem ml_Law_84 : mlV "MethodWardenLaw" 84 Y_MW_ask 3 := ⟨⟨yok_MW_ask, by decide +kernel, by decide⟩, Or.inl (inWG 1069 (by decide +kernel) (by decide +kernel)), inWG 1070 (by decide +kernel) (by decide +kernel), inWG 1071 (by decide +kernel) (by decide +kernel)⟩
theorem ml_Law_87 : mlV "MethodWardenLaw" 87 Y_Mod_ask 3 := ⟨⟨yok_Mod_ask, by decide +kernel, by decide⟩, Or.inl (inWG 1510 (by decide +kernel) (by decide +kernel)), inWG 1511 (by decide +kernel) (by decide +kernel), inWG 1512 (by decide +kernel) (by decide +kernel)⟩
theorem ml_Law_88 : mlV "MethodWardenLaw" 88 Y_MW_asked 0 := ⟨⟨yok_MW_asked, by decide +kernel, by decide⟩, Or.inl (inWG 1077 (by decide +kernel) (by decide +kernel)), inWG 1078 (by decide +kernel) (by decide +kernel), inWG 1079 (by decide +kernel) (by decide +kernel)⟩
theorem ml_Law_92 : mlV "MethodWardenLaw" 92 Y_Mod_asked 0 := ⟨⟨yok_Mod_asked, by decide +kernel, by decide⟩, Or.inl (inWG 1514 (by decide +kernel) (by decide +kernel)), inWG 1515 (by decide +kernel) (by decide +kernel), inWG 1516 (by decide +kernel) (by decide +kernel)⟩
def f_Law_law_668 (L : Nat) (xs : Nat → Int32) (K18 : Int32 → ax_M → Option (Int32 × ax_M)) (l3 : Int32) (M : ax_M) : Option (Int32 × ax_M) :=
  kM (l3 + 5) (fun x15 => K18 x15 M)
set_option maxHeartbeats 4000000 in
set_option maxRecDepth 100000 in
theorem o_Law_law_668 {l : Launch} {g : ax_G} (K18 : Int32 → ax_M → Option (Int32 × ax_M)) (hK18 : ∀ (l3 : Int32) (M : ax_M) (r : Int32) (M' : ax_M), K18 l3 M = some (r, M') → AW l g true Y_Law_law 139 (some (vI r), M') 18 [(0, vA 1), (1, vA 2), (2, vA 184), (3, vI l3)] [] M) (l3 : Int32) (M : ax_M) (r : Int32) (M' : ax_M) (h : f_Law_law_668 (gL g) (gx g) K18 l3 M = some (r, M')) : AW l g true Y_Law_law 139 (some (vI r), M') 668 [(0, vA 1), (1, vA 2), (2, vA 184), (3, vI l3)] [] M := by
  unfold f_Law_law_668 at h
  obtain ⟨x15, hx15, h⟩ := kM_out h
  refine A_iinc 3 (v := x15) (Ls' := [(3, vI x15), (0, vA 1), (1, vA 2), (2, vA 184)]) rfl rfl ((iiN (k := 5) (by decide) _).trans hx15) (by decide) rfl ?_
  refine A_goto (tgt := 18) rfl (by decide) ?_
  refine A_pc (pc' := 18) rfl ?_
  refine A_sub (Ls' := [(0, vA 1), (1, vA 2), (2, vA 184), (3, vI x15)]) [1, 2, 3, 0] rfl ?_
  exact hK18 _ _ _ _ h
def f_Law_law_18_b (L : Nat) (xs : Nat → Int32) (K18 : Int32 → ax_M → Option (Int32 × ax_M)) (l3 : Int32) (M : ax_M) : Option (Int32 × ax_M) :=
  if ((Int32.ofNat L) - 5) < l3 then (some (1, M)) else (gi l3 L (kM (xs l3.toNatClampNeg) (fun x3 => kM (x3 &&& 31) (fun x4 => if x4 = 0 then (gi (l3 + 1) L (kM (xs (l3 + 1).toNatClampNeg) (fun x7 => bnd (f_MW_type ((Int32.toUInt32 x7 % 65536).toInt32) M) (fun q8 M9 => gi (l3 + 1) L (kM (xs (l3 + 1).toNatClampNeg) (fun x11 => bnd (f_Mod_type ((Int32.toUInt32 x11 % 65536).toInt32) M9) (fun q12 M13 => if q8 = q12 then (f_Law_law_668 L xs K18 l3 M13) else (some (0, M13))))))))) else (if x4 = 1 then (gi (l3 + 1) L (kM (xs (l3 + 1).toNatClampNeg) (fun x18 => bnd (f_MW_define x18 M) (fun q19 M20 => gi (l3 + 1) L (kM (xs (l3 + 1).toNatClampNeg) (fun x22 => bnd (f_Mod_define x22 M20) (fun q23 M24 => if q19 = q23 then (f_Law_law_668 L xs K18 l3 M24) else (some (0, M24))))))))) else (if x4 = 2 then (gi (l3 + 1) L (kM (xs (l3 + 1).toNatClampNeg) (fun x28 => gi (l3 + 2) L (kM (xs (l3 + 2).toNatClampNeg) (fun x30 => bnd (f_MW_senior x28 x30 M) (fun q31 M32 => gi (l3 + 1) L (kM (xs (l3 + 1).toNatClampNeg) (fun x34 => gi (l3 + 2) L (kM (xs (l3 + 2).toNatClampNeg) (fun x36 => bnd (f_Mod_senior x34 x36 M32) (fun q37 M38 => if q31 = q37 then (f_Law_law_668 L xs K18 l3 M38) else (some (0, M38))))))))))))) else (if x4 = 3 then (gi (l3 + 1) L (kM (xs (l3 + 1).toNatClampNeg) (fun x42 => gi (l3 + 2) L (kM (xs (l3 + 2).toNatClampNeg) (fun x44 => bnd (f_MW_login x42 x44 M) (fun q45 M46 => gi (l3 + 1) L (kM (xs (l3 + 1).toNatClampNeg) (fun x48 => gi (l3 + 2) L (kM (xs (l3 + 2).toNatClampNeg) (fun x50 => bnd (f_Mod_login x48 x50 M46) (fun q51 M52 => if q45 = q51 then (f_Law_law_668 L xs K18 l3 M52) else (some (0, M52))))))))))))) else (if x4 = 4 then (bnd (f_MW_context  M) (fun q55 M56 => bnd (f_Mod_context  M56) (fun q57 M58 => if q55 = q57 then (f_Law_law_668 L xs K18 l3 M58) else (some (0, M58))))) else (if x4 = 5 then (gi (l3 + 1) L (kM (xs (l3 + 1).toNatClampNeg) (fun x62 => bnd (f_MW_add x62 M) (fun q63 M64 => gi (l3 + 1) L (kM (xs (l3 + 1).toNatClampNeg) (fun x66 => bnd (f_Mod_add x66 M64) (fun q67 M68 => if q63 = q67 then (f_Law_law_668 L xs K18 l3 M68) else (some (0, M68))))))))) else (if x4 = 6 then (bnd (f_MW_empty  M) (fun q71 M72 => bnd (f_Mod_empty  M72) (fun q73 M74 => f_Law_law_668 L xs K18 l3 M74))) else (if x4 = 7 then (gi (l3 + 1) L (kM (xs (l3 + 1).toNatClampNeg) (fun x77 => gi (l3 + 2) L (kM (xs (l3 + 2).toNatClampNeg) (fun x79 => gi (l3 + 3) L (kM (xs (l3 + 3).toNatClampNeg) (fun x81 => bnd (f_MW_guard x77 x79 x81 M) (fun q82 M83 => gi (l3 + 1) L (kM (xs (l3 + 1).toNatClampNeg) (fun x85 => gi (l3 + 2) L (kM (xs (l3 + 2).toNatClampNeg) (fun x87 => gi (l3 + 3) L (kM (xs (l3 + 3).toNatClampNeg) (fun x89 => bnd (f_Mod_guard x85 x87 x89 M83) (fun q90 M91 => if q82 = q90 then (f_Law_law_668 L xs K18 l3 M91) else (some (0, M91))))))))))))))))) else (if x4 = 8 then (gi (l3 + 1) L (kM (xs (l3 + 1).toNatClampNeg) (fun x95 => gi (l3 + 2) L (kM (xs (l3 + 2).toNatClampNeg) (fun x97 => gi (l3 + 3) L (kM (xs (l3 + 3).toNatClampNeg) (fun x99 => gi (l3 + 4) L (kM (xs (l3 + 4).toNatClampNeg) (fun x101 => bnd (f_MW_rules x95 x97 x99 x101 M) (fun q102 M103 => gi (l3 + 1) L (kM (xs (l3 + 1).toNatClampNeg) (fun x105 => gi (l3 + 2) L (kM (xs (l3 + 2).toNatClampNeg) (fun x107 => gi (l3 + 3) L (kM (xs (l3 + 3).toNatClampNeg) (fun x109 => gi (l3 + 4) L (kM (xs (l3 + 4).toNatClampNeg) (fun x111 => bnd (f_Mod_rules x105 x107 x109 x111 M103) (fun q112 M113 => if q102 = q112 then (f_Law_law_668 L xs K18 l3 M113) else (some (0, M113))))))))))))))))))))) else (if x4 = 9 then (gi (l3 + 1) L (kM (xs (l3 + 1).toNatClampNeg) (fun x117 => gi (l3 + 2) L (kM (xs (l3 + 2).toNatClampNeg) (fun x119 => gi (l3 + 3) L (kM (xs (l3 + 3).toNatClampNeg) (fun x121 => gi (l3 + 4) L (kM (xs (l3 + 4).toNatClampNeg) (fun x123 => bnd (f_MW_target x117 x119 x121 x123 M) (fun q124 M125 => gi (l3 + 1) L (kM (xs (l3 + 1).toNatClampNeg) (fun x127 => gi (l3 + 2) L (kM (xs (l3 + 2).toNatClampNeg) (fun x129 => gi (l3 + 3) L (kM (xs (l3 + 3).toNatClampNeg) (fun x131 => gi (l3 + 4) L (kM (xs (l3 + 4).toNatClampNeg) (fun x133 => bnd (f_Mod_target x127 x129 x131 x133 M125) (fun q134 M135 => if q124 = q134 then (f_Law_law_668 L xs K18 l3 M135) else (some (0, M135))))))))))))))))))))) else (if x4 = 10 then (gi (l3 + 1) L (kM (xs (l3 + 1).toNatClampNeg) (fun x139 => gi (l3 + 2) L (kM (xs (l3 + 2).toNatClampNeg) (fun x141 => gi (l3 + 3) L (kM (xs (l3 + 3).toNatClampNeg) (fun x143 => gi (l3 + 4) L (kM (xs (l3 + 4).toNatClampNeg) (fun x145 => kM (((Int32.toInt64 x143) <<< (Int32.toInt64 32 &&& 63)) ||| ((Int32.toInt64 x145) &&& 4294967295)) (fun j146 => bnd (f_MW_call x139 x141 j146 M) (fun q147 M148 => gi (l3 + 1) L (kM (xs (l3 + 1).toNatClampNeg) (fun x150 => gi (l3 + 2) L (kM (xs (l3 + 2).toNatClampNeg) (fun x152 => gi (l3 + 3) L (kM (xs (l3 + 3).toNatClampNeg) (fun x154 => gi (l3 + 4) L (kM (xs (l3 + 4).toNatClampNeg) (fun x156 => kM (((Int32.toInt64 x154) <<< (Int32.toInt64 32 &&& 63)) ||| ((Int32.toInt64 x156) &&& 4294967295)) (fun j157 => bnd (f_Mod_call x150 x152 j157 M148) (fun q158 M159 => if q147 = q158 then (f_Law_law_668 L xs K18 l3 M159) else (some (0, M159))))))))))))))))))))))) else (if x4 = 11 then (bnd (f_MW_kind  M) (fun q162 M163 => bnd (f_Mod_kind  M163) (fun q164 M165 => if q162 = q164 then (f_Law_law_668 L xs K18 l3 M165) else (some (0, M165))))) else (if x4 = 12 then (bnd (f_MW_number  M) (fun q168 M169 => bnd (f_Mod_number  M169) (fun q170 M171 => if q168 = q170 then (f_Law_law_668 L xs K18 l3 M171) else (some (0, M171))))) else (if x4 = 13 then (gi (l3 + 1) L (kM (xs (l3 + 1).toNatClampNeg) (fun x175 => bnd (f_MW_itemAt x175 M) (fun q176 M177 => gi (l3 + 1) L (kM (xs (l3 + 1).toNatClampNeg) (fun x179 => bnd (f_Mod_itemAt x179 M177) (fun q180 M181 => if q176 = q180 then (f_Law_law_668 L xs K18 l3 M181) else (some (0, M181))))))))) else (if x4 = 14 then (gi (l3 + 1) L (kM (xs (l3 + 1).toNatClampNeg) (fun x185 => gi (l3 + 2) L (kM (xs (l3 + 2).toNatClampNeg) (fun x187 => bnd (f_MW_count x185 x187 M) (fun q188 M189 => gi (l3 + 1) L (kM (xs (l3 + 1).toNatClampNeg) (fun x191 => gi (l3 + 2) L (kM (xs (l3 + 2).toNatClampNeg) (fun x193 => bnd (f_Mod_count x191 x193 M189) (fun q194 M195 => if q188 = q194 then (f_Law_law_668 L xs K18 l3 M195) else (some (0, M195))))))))))))) else (if x4 = 15 then (gi (l3 + 1) L (kM (xs (l3 + 1).toNatClampNeg) (fun x199 => gi (l3 + 2) L (kM (xs (l3 + 2).toNatClampNeg) (fun x201 => gi (l3 + 3) L (kM (xs (l3 + 3).toNatClampNeg) (fun x203 => gi (l3 + 4) L (kM (xs (l3 + 4).toNatClampNeg) (fun x205 => kM (((Int32.toInt64 x203) <<< (Int32.toInt64 32 &&& 63)) ||| ((Int32.toInt64 x205) &&& 4294967295)) (fun j206 => bnd (f_MW_ask x199 x201 j206 M) (fun q207 M208 => gi (l3 + 1) L (kM (xs (l3 + 1).toNatClampNeg) (fun x210 => gi (l3 + 2) L (kM (xs (l3 + 2).toNatClampNeg) (fun x212 => gi (l3 + 3) L (kM (xs (l3 + 3).toNatClampNeg) (fun x214 => gi (l3 + 4) L (kM (xs (l3 + 4).toNatClampNeg) (fun x216 => kM (((Int32.toInt64 x214) <<< (Int32.toInt64 32 &&& 63)) ||| ((Int32.toInt64 x216) &&& 4294967295)) (fun j217 => bnd (f_Mod_ask x210 x212 j217 M208) (fun q218 M219 => if q207 = q218 then (f_Law_law_668 L xs K18 l3 M219) else (some (0, M219))))))))))))))))))))))) else (if x4 = 16 then (bnd (f_MW_asked  M) (fun q222 M223 => bnd (f_Mod_asked  M223) (fun q224 M225 => if (lg_cmp q222 q224) = 0 then (f_Law_law_668 L xs K18 l3 M225) else (some (0, M225))))) else (f_Law_law_668 L xs K18 l3 M)))))))))))))))))))))
def f_Law_law_18 (L : Nat) (xs : Nat → Int32) : Nat → Int32 → ax_M → Option (Int32 × ax_M)
  | 0, _, _ => none
  | n + 1, l3, M => f_Law_law_18_b L xs  (f_Law_law_18 L xs n) l3 M
set_option maxHeartbeats 4000000 in
set_option maxRecDepth 100000 in
theorem o_Law_law_18_b {l : Launch} {g : ax_G} (K18 : Int32 → ax_M → Option (Int32 × ax_M)) (hK18 : ∀ (l3 : Int32) (M : ax_M) (r : Int32) (M' : ax_M), K18 l3 M = some (r, M') → AW l g true Y_Law_law 139 (some (vI r), M') 18 [(0, vA 1), (1, vA 2), (2, vA 184), (3, vI l3)] [] M) (l3 : Int32) (M : ax_M) (r : Int32) (M' : ax_M) (h : f_Law_law_18_b (gL g) (gx g)  K18 l3 M = some (r, M')) : AW l g true Y_Law_law 139 (some (vI r), M') 18 [(0, vA 1), (1, vA 2), (2, vA 184), (3, vI l3)] [] M := by
  unfold f_Law_law_18_b at h
  refine A_iload_n 3 rfl rfl rfl ?_
  refine A_aload_n 0 rfl rfl rfl ?_
  refine A_slen rfl ?_
  refine A_iconst (v := 5) rfl (by decide) ?_
  refine A_isub rfl ?_
  refine A_pc (pc' := 23) rfl ?_
  refine A_icmp_gt (tgt := 674) rfl (by decide) (fun hc1 => ?_) (fun hc1 => ?_)
  · rw [if_pos hc1] at h
    refine A_iconst (v := 1) rfl (by decide) ?_
    obtain ⟨rfl, rfl⟩ := leaf h
    exact A_zret rfl rfl (Or.inr rfl)
  · rw [if_neg hc1] at h
    refine A_pc (pc' := 26) rfl ?_
    refine A_aload_n 0 rfl rfl rfl ?_
    refine A_iload_n 3 rfl rfl rfl ?_
    obtain ⟨hg2, h⟩ := gi_out h
    refine A_sld rfl hg2 ?_
    obtain ⟨x3, hx3, h⟩ := kM_out h
    refine A_nI hx3 ?_
    refine A_bipush (v := 31) rfl (by decide) ?_
    refine A_iand rfl ?_
    refine A_pc (pc' := 32) rfl ?_
    obtain ⟨x4, hx4, h⟩ := kM_out h
    refine A_nI hx4 ?_
    by_cases hc5 : x4 = 0
    · rw [if_pos hc5] at h
      refine A_tableIn (tgt := 116) (off := 84) rfl (by rw [hc5]; decide) (by rw [hc5]; decide) (by rw [hc5]; rfl) (by decide) ?_
      refine A_aload_n 1 rfl rfl rfl ?_
      refine A_aload_n 0 rfl rfl rfl ?_
      refine A_iload_n 3 rfl rfl rfl ?_
      refine A_iconst (v := 1) rfl (by decide) ?_
      refine A_iadd rfl ?_
      refine A_pc (pc' := 121) rfl ?_
      obtain ⟨hg6, h⟩ := gi_out h
      refine A_sld rfl hg6 ?_
      obtain ⟨x7, hx7, h⟩ := kM_out h
      refine A_nI hx7 ?_
      refine A_i2c rfl ?_
      obtain ⟨q8, M9, hcq8, h⟩ := bnd_out h
      refine A_callV (ci := 0) (as := [vI ((Int32.toUInt32 x7 % 65536).toInt32)]) (st' := []) (r1 := (some (vI q8), M9)) rfl ml_Law_13 rfl (by decide) (by decide) (Or.inl rfl) rfl rfl (Nat.le_of_ble_eq_true rfl) (by decide) (c_MW_type hcq8) (Or.inl rfl) ?_
      refine A_pc (pc' := 126) rfl ?_
      refine A_stk (st' := [vI q8]) rfl ?_
      refine A_aload_n 2 rfl rfl rfl ?_
      refine A_aload_n 0 rfl rfl rfl ?_
      refine A_iload_n 3 rfl rfl rfl ?_
      refine A_pc (pc' := 129) rfl ?_
      refine A_iconst (v := 1) rfl (by decide) ?_
      refine A_iadd rfl ?_
      obtain ⟨hg10, h⟩ := gi_out h
      refine A_sld rfl hg10 ?_
      obtain ⟨x11, hx11, h⟩ := kM_out h
      refine A_nI hx11 ?_
      refine A_i2c rfl ?_
      obtain ⟨q12, M13, hcq12, h⟩ := bnd_out h
      refine A_callV (ci := 11) (as := [vI ((Int32.toUInt32 x11 % 65536).toInt32)]) (st' := [vI q8]) (r1 := (some (vI q12), M13)) rfl ml_Law_17 rfl (by decide) (by decide) (Or.inl rfl) rfl rfl (Nat.le_of_ble_eq_true rfl) (by decide) (c_Mod_type hcq12) (Or.inl rfl) ?_
      refine A_pc (pc' := 136) rfl ?_
      refine A_stk (st' := [vI q12, vI q8]) rfl ?_
      refine A_icmp_eq (tgt := 668) rfl (by decide) (fun hc14 => ?_) (fun hc14 => ?_)
      · rw [if_pos hc14] at h
        refine A_pc (pc' := 668) rfl ?_
        refine A_sub (Ls' := [(0, vA 1), (1, vA 2), (2, vA 184), (3, vI l3)]) [0, 1, 2, 3] rfl ?_
        exact o_Law_law_668 K18 hK18 _ _ _ _ h
      · rw [if_neg hc14] at h
        refine A_pc (pc' := 139) rfl ?_
        refine A_iconst (v := 0) rfl (by decide) ?_
        obtain ⟨rfl, rfl⟩ := leaf h
        exact A_zret rfl rfl (Or.inl rfl)
    · rw [if_neg hc5] at h
      by_cases hc16 : x4 = 1
      · rw [if_pos hc16] at h
        refine A_tableIn (tgt := 141) (off := 109) rfl (by rw [hc16]; decide) (by rw [hc16]; decide) (by rw [hc16]; rfl) (by decide) ?_
        refine A_aload_n 1 rfl rfl rfl ?_
        refine A_aload_n 0 rfl rfl rfl ?_
        refine A_iload_n 3 rfl rfl rfl ?_
        refine A_iconst (v := 1) rfl (by decide) ?_
        refine A_iadd rfl ?_
        refine A_pc (pc' := 146) rfl ?_
        obtain ⟨hg17, h⟩ := gi_out h
        refine A_sld rfl hg17 ?_
        obtain ⟨x18, hx18, h⟩ := kM_out h
        refine A_nI hx18 ?_
        obtain ⟨q19, M20, hcq19, h⟩ := bnd_out h
        refine A_callV (ci := 0) (as := [vI x18]) (st' := []) (r1 := (some (vI q19), M20)) rfl ml_Law_18 rfl (by decide) (by decide) (Or.inl rfl) rfl rfl (Nat.le_of_ble_eq_true rfl) (by decide) (c_MW_define hcq19) (Or.inl rfl) ?_
        refine A_pc (pc' := 150) rfl ?_
        refine A_stk (st' := [vI q19]) rfl ?_
        refine A_aload_n 2 rfl rfl rfl ?_
        refine A_aload_n 0 rfl rfl rfl ?_
        refine A_iload_n 3 rfl rfl rfl ?_
        refine A_iconst (v := 1) rfl (by decide) ?_
        refine A_pc (pc' := 154) rfl ?_
        refine A_iadd rfl ?_
        obtain ⟨hg21, h⟩ := gi_out h
        refine A_sld rfl hg21 ?_
        obtain ⟨x22, hx22, h⟩ := kM_out h
        refine A_nI hx22 ?_
        obtain ⟨q23, M24, hcq23, h⟩ := bnd_out h
        refine A_callV (ci := 11) (as := [vI x22]) (st' := [vI q19]) (r1 := (some (vI q23), M24)) rfl ml_Law_22 rfl (by decide) (by decide) (Or.inl rfl) rfl rfl (Nat.le_of_ble_eq_true rfl) (by decide) (c_Mod_define hcq23) (Or.inl rfl) ?_
        refine A_pc (pc' := 159) rfl ?_
        refine A_stk (st' := [vI q23, vI q19]) rfl ?_
        refine A_icmp_eq (tgt := 668) rfl (by decide) (fun hc25 => ?_) (fun hc25 => ?_)
        · rw [if_pos hc25] at h
          refine A_pc (pc' := 668) rfl ?_
          refine A_sub (Ls' := [(0, vA 1), (1, vA 2), (2, vA 184), (3, vI l3)]) [0, 1, 2, 3] rfl ?_
          exact o_Law_law_668 K18 hK18 _ _ _ _ h
        · rw [if_neg hc25] at h
          refine A_pc (pc' := 162) rfl ?_
          refine A_iconst (v := 0) rfl (by decide) ?_
          obtain ⟨rfl, rfl⟩ := leaf h
          exact A_zret rfl rfl (Or.inl rfl)
      · rw [if_neg hc16] at h
        by_cases hc26 : x4 = 2
        · rw [if_pos hc26] at h
          refine A_tableIn (tgt := 164) (off := 132) rfl (by rw [hc26]; decide) (by rw [hc26]; decide) (by rw [hc26]; rfl) (by decide) ?_
          refine A_aload_n 1 rfl rfl rfl ?_
          refine A_aload_n 0 rfl rfl rfl ?_
          refine A_iload_n 3 rfl rfl rfl ?_
          refine A_iconst (v := 1) rfl (by decide) ?_
          refine A_iadd rfl ?_
          refine A_pc (pc' := 169) rfl ?_
          obtain ⟨hg27, h⟩ := gi_out h
          refine A_sld rfl hg27 ?_
          obtain ⟨x28, hx28, h⟩ := kM_out h
          refine A_nI hx28 ?_
          refine A_aload_n 0 rfl rfl rfl ?_
          refine A_iload_n 3 rfl rfl rfl ?_
          refine A_iconst (v := 2) rfl (by decide) ?_
          refine A_iadd rfl ?_
          obtain ⟨hg29, h⟩ := gi_out h
          refine A_sld rfl hg29 ?_
          obtain ⟨x30, hx30, h⟩ := kM_out h
          refine A_nI hx30 ?_
          refine A_pc (pc' := 175) rfl ?_
          obtain ⟨q31, M32, hcq31, h⟩ := bnd_out h
          refine A_callV (ci := 0) (as := [vI x28, vI x30]) (st' := []) (r1 := (some (vI q31), M32)) rfl ml_Law_23 rfl (by decide) (by decide) (Or.inl rfl) rfl rfl (Nat.le_of_ble_eq_true rfl) (by decide) (c_MW_senior hcq31) (Or.inl rfl) ?_
          refine A_pc (pc' := 178) rfl ?_
          refine A_stk (st' := [vI q31]) rfl ?_
          refine A_aload_n 2 rfl rfl rfl ?_
          refine A_aload_n 0 rfl rfl rfl ?_
          refine A_iload_n 3 rfl rfl rfl ?_
          refine A_iconst (v := 1) rfl (by decide) ?_
          refine A_iadd rfl ?_
          refine A_pc (pc' := 183) rfl ?_
          obtain ⟨hg33, h⟩ := gi_out h
          refine A_sld rfl hg33 ?_
          obtain ⟨x34, hx34, h⟩ := kM_out h
          refine A_nI hx34 ?_
          refine A_aload_n 0 rfl rfl rfl ?_
          refine A_iload_n 3 rfl rfl rfl ?_
          refine A_iconst (v := 2) rfl (by decide) ?_
          refine A_iadd rfl ?_
          obtain ⟨hg35, h⟩ := gi_out h
          refine A_sld rfl hg35 ?_
          obtain ⟨x36, hx36, h⟩ := kM_out h
          refine A_nI hx36 ?_
          refine A_pc (pc' := 189) rfl ?_
          obtain ⟨q37, M38, hcq37, h⟩ := bnd_out h
          refine A_callV (ci := 11) (as := [vI x34, vI x36]) (st' := [vI q31]) (r1 := (some (vI q37), M38)) rfl ml_Law_27 rfl (by decide) (by decide) (Or.inl rfl) rfl rfl (Nat.le_of_ble_eq_true rfl) (by decide) (c_Mod_senior hcq37) (Or.inl rfl) ?_
          refine A_pc (pc' := 192) rfl ?_
          refine A_stk (st' := [vI q37, vI q31]) rfl ?_
          refine A_icmp_eq (tgt := 668) rfl (by decide) (fun hc39 => ?_) (fun hc39 => ?_)
          · rw [if_pos hc39] at h
            refine A_pc (pc' := 668) rfl ?_
            refine A_sub (Ls' := [(0, vA 1), (1, vA 2), (2, vA 184), (3, vI l3)]) [0, 1, 2, 3] rfl ?_
            exact o_Law_law_668 K18 hK18 _ _ _ _ h
          · rw [if_neg hc39] at h
            refine A_pc (pc' := 195) rfl ?_
            refine A_iconst (v := 0) rfl (by decide) ?_
            obtain ⟨rfl, rfl⟩ := leaf h
            exact A_zret rfl rfl (Or.inl rfl)
        · rw [if_neg hc26] at h
          by_cases hc40 : x4 = 3
          · rw [if_pos hc40] at h
            refine A_tableIn (tgt := 197) (off := 165) rfl (by rw [hc40]; decide) (by rw [hc40]; decide) (by rw [hc40]; rfl) (by decide) ?_
            refine A_aload_n 1 rfl rfl rfl ?_
            refine A_aload_n 0 rfl rfl rfl ?_
            refine A_iload_n 3 rfl rfl rfl ?_
            refine A_iconst (v := 1) rfl (by decide) ?_
            refine A_iadd rfl ?_
            refine A_pc (pc' := 202) rfl ?_
            obtain ⟨hg41, h⟩ := gi_out h
            refine A_sld rfl hg41 ?_
            obtain ⟨x42, hx42, h⟩ := kM_out h
            refine A_nI hx42 ?_
            refine A_aload_n 0 rfl rfl rfl ?_
            refine A_iload_n 3 rfl rfl rfl ?_
            refine A_iconst (v := 2) rfl (by decide) ?_
            refine A_iadd rfl ?_
            obtain ⟨hg43, h⟩ := gi_out h
            refine A_sld rfl hg43 ?_
            obtain ⟨x44, hx44, h⟩ := kM_out h
            refine A_nI hx44 ?_
            refine A_pc (pc' := 208) rfl ?_
            obtain ⟨q45, M46, hcq45, h⟩ := bnd_out h
            refine A_callV (ci := 0) (as := [vI x42, vI x44]) (st' := []) (r1 := (some (vI q45), M46)) rfl ml_Law_28 rfl (by decide) (by decide) (Or.inl rfl) rfl rfl (Nat.le_of_ble_eq_true rfl) (by decide) (c_MW_login hcq45) (Or.inl rfl) ?_
            refine A_pc (pc' := 211) rfl ?_
            refine A_stk (st' := [vI q45]) rfl ?_
            refine A_aload_n 2 rfl rfl rfl ?_
            refine A_aload_n 0 rfl rfl rfl ?_
            refine A_iload_n 3 rfl rfl rfl ?_
            refine A_iconst (v := 1) rfl (by decide) ?_
            refine A_iadd rfl ?_
            refine A_pc (pc' := 216) rfl ?_
            obtain ⟨hg47, h⟩ := gi_out h
            refine A_sld rfl hg47 ?_
            obtain ⟨x48, hx48, h⟩ := kM_out h
            refine A_nI hx48 ?_
            refine A_aload_n 0 rfl rfl rfl ?_
            refine A_iload_n 3 rfl rfl rfl ?_
            refine A_iconst (v := 2) rfl (by decide) ?_
            refine A_iadd rfl ?_
            obtain ⟨hg49, h⟩ := gi_out h
            refine A_sld rfl hg49 ?_
            obtain ⟨x50, hx50, h⟩ := kM_out h
            refine A_nI hx50 ?_
            refine A_pc (pc' := 222) rfl ?_
            obtain ⟨q51, M52, hcq51, h⟩ := bnd_out h
            refine A_callV (ci := 11) (as := [vI x48, vI x50]) (st' := [vI q45]) (r1 := (some (vI q51), M52)) rfl ml_Law_31 rfl (by decide) (by decide) (Or.inl rfl) rfl rfl (Nat.le_of_ble_eq_true rfl) (by decide) (c_Mod_login hcq51) (Or.inl rfl) ?_
            refine A_pc (pc' := 225) rfl ?_
            refine A_stk (st' := [vI q51, vI q45]) rfl ?_
            refine A_icmp_eq (tgt := 668) rfl (by decide) (fun hc53 => ?_) (fun hc53 => ?_)
            · rw [if_pos hc53] at h
              refine A_pc (pc' := 668) rfl ?_
              refine A_sub (Ls' := [(0, vA 1), (1, vA 2), (2, vA 184), (3, vI l3)]) [0, 1, 2, 3] rfl ?_
              exact o_Law_law_668 K18 hK18 _ _ _ _ h
            · rw [if_neg hc53] at h
              refine A_pc (pc' := 228) rfl ?_
              refine A_iconst (v := 0) rfl (by decide) ?_
              obtain ⟨rfl, rfl⟩ := leaf h
              exact A_zret rfl rfl (Or.inl rfl)
          · rw [if_neg hc40] at h
            by_cases hc54 : x4 = 4
            · rw [if_pos hc54] at h
              refine A_tableIn (tgt := 230) (off := 198) rfl (by rw [hc54]; decide) (by rw [hc54]; decide) (by rw [hc54]; rfl) (by decide) ?_
              refine A_aload_n 1 rfl rfl rfl ?_
              obtain ⟨q55, M56, hcq55, h⟩ := bnd_out h
              refine A_callV (ci := 0) (as := []) (st' := []) (r1 := (some (vI q55), M56)) rfl ml_Law_32 rfl (by decide) (by decide) (Or.inl rfl) rfl rfl (Nat.le_of_ble_eq_true rfl) (by decide) (c_MW_context hcq55) (Or.inl rfl) ?_
              refine A_pc (pc' := 234) rfl ?_
              refine A_stk (st' := [vI q55]) rfl ?_
              refine A_aload_n 2 rfl rfl rfl ?_
              obtain ⟨q57, M58, hcq57, h⟩ := bnd_out h
              refine A_callV (ci := 11) (as := []) (st' := [vI q55]) (r1 := (some (vI q57), M58)) rfl ml_Law_36 rfl (by decide) (by decide) (Or.inl rfl) rfl rfl (Nat.le_of_ble_eq_true rfl) (by decide) (c_Mod_context hcq57) (Or.inl rfl) ?_
              refine A_pc (pc' := 238) rfl ?_
              refine A_stk (st' := [vI q57, vI q55]) rfl ?_
              refine A_icmp_eq (tgt := 668) rfl (by decide) (fun hc59 => ?_) (fun hc59 => ?_)
              · rw [if_pos hc59] at h
                refine A_pc (pc' := 668) rfl ?_
                refine A_sub (Ls' := [(0, vA 1), (1, vA 2), (2, vA 184), (3, vI l3)]) [0, 1, 2, 3] rfl ?_
                exact o_Law_law_668 K18 hK18 _ _ _ _ h
              · rw [if_neg hc59] at h
                refine A_pc (pc' := 241) rfl ?_
                refine A_iconst (v := 0) rfl (by decide) ?_
                obtain ⟨rfl, rfl⟩ := leaf h
                exact A_zret rfl rfl (Or.inl rfl)
            · rw [if_neg hc54] at h
              by_cases hc60 : x4 = 5
              · rw [if_pos hc60] at h
                refine A_tableIn (tgt := 243) (off := 211) rfl (by rw [hc60]; decide) (by rw [hc60]; decide) (by rw [hc60]; rfl) (by decide) ?_
                refine A_aload_n 1 rfl rfl rfl ?_
                refine A_aload_n 0 rfl rfl rfl ?_
                refine A_iload_n 3 rfl rfl rfl ?_
                refine A_iconst (v := 1) rfl (by decide) ?_
                refine A_iadd rfl ?_
                refine A_pc (pc' := 248) rfl ?_
                obtain ⟨hg61, h⟩ := gi_out h
                refine A_sld rfl hg61 ?_
                obtain ⟨x62, hx62, h⟩ := kM_out h
                refine A_nI hx62 ?_
                obtain ⟨q63, M64, hcq63, h⟩ := bnd_out h
                refine A_callV (ci := 0) (as := [vI x62]) (st' := []) (r1 := (some (vI q63), M64)) rfl ml_Law_37 rfl (by decide) (by decide) (Or.inl rfl) rfl rfl (Nat.le_of_ble_eq_true rfl) (by decide) (c_MW_add hcq63) (Or.inl rfl) ?_
                refine A_pc (pc' := 252) rfl ?_
                refine A_stk (st' := [vI q63]) rfl ?_
                refine A_aload_n 2 rfl rfl rfl ?_
                refine A_aload_n 0 rfl rfl rfl ?_
                refine A_iload_n 3 rfl rfl rfl ?_
                refine A_iconst (v := 1) rfl (by decide) ?_
                refine A_pc (pc' := 256) rfl ?_
                refine A_iadd rfl ?_
                obtain ⟨hg65, h⟩ := gi_out h
                refine A_sld rfl hg65 ?_
                obtain ⟨x66, hx66, h⟩ := kM_out h
                refine A_nI hx66 ?_
                obtain ⟨q67, M68, hcq67, h⟩ := bnd_out h
                refine A_callV (ci := 11) (as := [vI x66]) (st' := [vI q63]) (r1 := (some (vI q67), M68)) rfl ml_Law_41 rfl (by decide) (by decide) (Or.inl rfl) rfl rfl (Nat.le_of_ble_eq_true rfl) (by decide) (c_Mod_add hcq67) (Or.inl rfl) ?_
                refine A_pc (pc' := 261) rfl ?_
                refine A_stk (st' := [vI q67, vI q63]) rfl ?_
                refine A_icmp_eq (tgt := 668) rfl (by decide) (fun hc69 => ?_) (fun hc69 => ?_)
                · rw [if_pos hc69] at h
                  refine A_pc (pc' := 668) rfl ?_
                  refine A_sub (Ls' := [(0, vA 1), (1, vA 2), (2, vA 184), (3, vI l3)]) [0, 1, 2, 3] rfl ?_
                  exact o_Law_law_668 K18 hK18 _ _ _ _ h
                · rw [if_neg hc69] at h
                  refine A_pc (pc' := 264) rfl ?_
                  refine A_iconst (v := 0) rfl (by decide) ?_
                  obtain ⟨rfl, rfl⟩ := leaf h
                  exact A_zret rfl rfl (Or.inl rfl)
              · rw [if_neg hc60] at h
                by_cases hc70 : x4 = 6
                · rw [if_pos hc70] at h
                  refine A_tableIn (tgt := 266) (off := 234) rfl (by rw [hc70]; decide) (by rw [hc70]; decide) (by rw [hc70]; rfl) (by decide) ?_
                  refine A_aload_n 1 rfl rfl rfl ?_
                  obtain ⟨q71, M72, hcq71, h⟩ := bnd_out h
                  refine A_callV (ci := 0) (as := []) (st' := []) (r1 := (none, M72)) rfl ml_Law_42 rfl (by decide) (by decide) (Or.inl rfl) rfl rfl (Nat.le_of_ble_eq_true rfl) (by decide) (c_MW_empty hcq71) (Or.inl rfl) ?_
                  refine A_pc (pc' := 270) rfl ?_
                  refine A_stk (st' := []) rfl ?_
                  refine A_aload_n 2 rfl rfl rfl ?_
                  obtain ⟨q73, M74, hcq73, h⟩ := bnd_out h
                  refine A_callV (ci := 11) (as := []) (st' := []) (r1 := (none, M74)) rfl ml_Law_45 rfl (by decide) (by decide) (Or.inl rfl) rfl rfl (Nat.le_of_ble_eq_true rfl) (by decide) (c_Mod_empty hcq73) (Or.inl rfl) ?_
                  refine A_pc (pc' := 274) rfl ?_
                  refine A_stk (st' := []) rfl ?_
                  refine A_goto (tgt := 668) rfl (by decide) ?_
                  refine A_pc (pc' := 668) rfl ?_
                  refine A_sub (Ls' := [(0, vA 1), (1, vA 2), (2, vA 184), (3, vI l3)]) [0, 1, 2, 3] rfl ?_
                  exact o_Law_law_668 K18 hK18 _ _ _ _ h
                · rw [if_neg hc70] at h
                  by_cases hc75 : x4 = 7
                  · rw [if_pos hc75] at h
                    refine A_tableIn (tgt := 277) (off := 245) rfl (by rw [hc75]; decide) (by rw [hc75]; decide) (by rw [hc75]; rfl) (by decide) ?_
                    refine A_aload_n 1 rfl rfl rfl ?_
                    refine A_aload_n 0 rfl rfl rfl ?_
                    refine A_iload_n 3 rfl rfl rfl ?_
                    refine A_iconst (v := 1) rfl (by decide) ?_
                    refine A_iadd rfl ?_
                    refine A_pc (pc' := 282) rfl ?_
                    obtain ⟨hg76, h⟩ := gi_out h
                    refine A_sld rfl hg76 ?_
                    obtain ⟨x77, hx77, h⟩ := kM_out h
                    refine A_nI hx77 ?_
                    refine A_aload_n 0 rfl rfl rfl ?_
                    refine A_iload_n 3 rfl rfl rfl ?_
                    refine A_iconst (v := 2) rfl (by decide) ?_
                    refine A_iadd rfl ?_
                    obtain ⟨hg78, h⟩ := gi_out h
                    refine A_sld rfl hg78 ?_
                    obtain ⟨x79, hx79, h⟩ := kM_out h
                    refine A_nI hx79 ?_
                    refine A_pc (pc' := 288) rfl ?_
                    refine A_aload_n 0 rfl rfl rfl ?_
                    refine A_iload_n 3 rfl rfl rfl ?_
                    refine A_iconst (v := 3) rfl (by decide) ?_
                    refine A_iadd rfl ?_
                    obtain ⟨hg80, h⟩ := gi_out h
                    refine A_sld rfl hg80 ?_
                    obtain ⟨x81, hx81, h⟩ := kM_out h
                    refine A_nI hx81 ?_
                    obtain ⟨q82, M83, hcq82, h⟩ := bnd_out h
                    refine A_callV (ci := 0) (as := [vI x77, vI x79, vI x81]) (st' := []) (r1 := (some (vI q82), M83)) rfl ml_Law_46 rfl (by decide) (by decide) (Or.inl rfl) rfl rfl (Nat.le_of_ble_eq_true rfl) (by decide) (c_MW_guard hcq82) (Or.inl rfl) ?_
                    refine A_pc (pc' := 296) rfl ?_
                    refine A_stk (st' := [vI q82]) rfl ?_
                    refine A_pc (pc' := 296) rfl ?_
                    refine A_aload_n 2 rfl rfl rfl ?_
                    refine A_aload_n 0 rfl rfl rfl ?_
                    refine A_iload_n 3 rfl rfl rfl ?_
                    refine A_iconst (v := 1) rfl (by decide) ?_
                    refine A_iadd rfl ?_
                    obtain ⟨hg84, h⟩ := gi_out h
                    refine A_sld rfl hg84 ?_
                    obtain ⟨x85, hx85, h⟩ := kM_out h
                    refine A_nI hx85 ?_
                    refine A_pc (pc' := 302) rfl ?_
                    refine A_aload_n 0 rfl rfl rfl ?_
                    refine A_iload_n 3 rfl rfl rfl ?_
                    refine A_iconst (v := 2) rfl (by decide) ?_
                    refine A_iadd rfl ?_
                    obtain ⟨hg86, h⟩ := gi_out h
                    refine A_sld rfl hg86 ?_
                    obtain ⟨x87, hx87, h⟩ := kM_out h
                    refine A_nI hx87 ?_
                    refine A_aload_n 0 rfl rfl rfl ?_
                    refine A_pc (pc' := 308) rfl ?_
                    refine A_iload_n 3 rfl rfl rfl ?_
                    refine A_iconst (v := 3) rfl (by decide) ?_
                    refine A_iadd rfl ?_
                    obtain ⟨hg88, h⟩ := gi_out h
                    refine A_sld rfl hg88 ?_
                    obtain ⟨x89, hx89, h⟩ := kM_out h
                    refine A_nI hx89 ?_
                    obtain ⟨q90, M91, hcq90, h⟩ := bnd_out h
                    refine A_callV (ci := 11) (as := [vI x85, vI x87, vI x89]) (st' := [vI q82]) (r1 := (some (vI q90), M91)) rfl ml_Law_50 rfl (by decide) (by decide) (Or.inl rfl) rfl rfl (Nat.le_of_ble_eq_true rfl) (by decide) (c_Mod_guard hcq90) (Or.inl rfl) ?_
                    refine A_pc (pc' := 315) rfl ?_
                    refine A_stk (st' := [vI q90, vI q82]) rfl ?_
                    refine A_icmp_eq (tgt := 668) rfl (by decide) (fun hc92 => ?_) (fun hc92 => ?_)
                    · rw [if_pos hc92] at h
                      refine A_pc (pc' := 668) rfl ?_
                      refine A_sub (Ls' := [(0, vA 1), (1, vA 2), (2, vA 184), (3, vI l3)]) [0, 1, 2, 3] rfl ?_
                      exact o_Law_law_668 K18 hK18 _ _ _ _ h
                    · rw [if_neg hc92] at h
                      refine A_pc (pc' := 318) rfl ?_
                      refine A_iconst (v := 0) rfl (by decide) ?_
                      obtain ⟨rfl, rfl⟩ := leaf h
                      exact A_zret rfl rfl (Or.inl rfl)
                  · rw [if_neg hc75] at h
                    by_cases hc93 : x4 = 8
                    · rw [if_pos hc93] at h
                      refine A_tableIn (tgt := 320) (off := 288) rfl (by rw [hc93]; decide) (by rw [hc93]; decide) (by rw [hc93]; rfl) (by decide) ?_
                      refine A_aload_n 1 rfl rfl rfl ?_
                      refine A_aload_n 0 rfl rfl rfl ?_
                      refine A_iload_n 3 rfl rfl rfl ?_
                      refine A_iconst (v := 1) rfl (by decide) ?_
                      refine A_iadd rfl ?_
                      refine A_pc (pc' := 325) rfl ?_
                      obtain ⟨hg94, h⟩ := gi_out h
                      refine A_sld rfl hg94 ?_
                      obtain ⟨x95, hx95, h⟩ := kM_out h
                      refine A_nI hx95 ?_
                      refine A_aload_n 0 rfl rfl rfl ?_
                      refine A_iload_n 3 rfl rfl rfl ?_
                      refine A_iconst (v := 2) rfl (by decide) ?_
                      refine A_iadd rfl ?_
                      obtain ⟨hg96, h⟩ := gi_out h
                      refine A_sld rfl hg96 ?_
                      obtain ⟨x97, hx97, h⟩ := kM_out h
                      refine A_nI hx97 ?_
                      refine A_pc (pc' := 331) rfl ?_
                      refine A_aload_n 0 rfl rfl rfl ?_
                      refine A_iload_n 3 rfl rfl rfl ?_
                      refine A_iconst (v := 3) rfl (by decide) ?_
                      refine A_iadd rfl ?_
                      obtain ⟨hg98, h⟩ := gi_out h
                      refine A_sld rfl hg98 ?_
                      obtain ⟨x99, hx99, h⟩ := kM_out h
                      refine A_nI hx99 ?_
                      refine A_aload_n 0 rfl rfl rfl ?_
                      refine A_pc (pc' := 337) rfl ?_
                      refine A_iload_n 3 rfl rfl rfl ?_
                      refine A_iconst (v := 4) rfl (by decide) ?_
                      refine A_iadd rfl ?_
                      obtain ⟨hg100, h⟩ := gi_out h
                      refine A_sld rfl hg100 ?_
                      obtain ⟨x101, hx101, h⟩ := kM_out h
                      refine A_nI hx101 ?_
                      obtain ⟨q102, M103, hcq102, h⟩ := bnd_out h
                      refine A_callV (ci := 0) (as := [vI x95, vI x97, vI x99, vI x101]) (st' := []) (r1 := (some (vI q102), M103)) rfl ml_Law_51 rfl (by decide) (by decide) (Or.inl rfl) rfl rfl (Nat.le_of_ble_eq_true rfl) (by decide) (c_MW_rules hcq102) (Or.inl rfl) ?_
                      refine A_pc (pc' := 344) rfl ?_
                      refine A_stk (st' := [vI q102]) rfl ?_
                      refine A_aload_n 2 rfl rfl rfl ?_
                      refine A_pc (pc' := 345) rfl ?_
                      refine A_aload_n 0 rfl rfl rfl ?_
                      refine A_iload_n 3 rfl rfl rfl ?_
                      refine A_iconst (v := 1) rfl (by decide) ?_
                      refine A_iadd rfl ?_
                      obtain ⟨hg104, h⟩ := gi_out h
                      refine A_sld rfl hg104 ?_
                      obtain ⟨x105, hx105, h⟩ := kM_out h
                      refine A_nI hx105 ?_
                      refine A_aload_n 0 rfl rfl rfl ?_
                      refine A_pc (pc' := 351) rfl ?_
                      refine A_iload_n 3 rfl rfl rfl ?_
                      refine A_iconst (v := 2) rfl (by decide) ?_
                      refine A_iadd rfl ?_
                      obtain ⟨hg106, h⟩ := gi_out h
                      refine A_sld rfl hg106 ?_
                      obtain ⟨x107, hx107, h⟩ := kM_out h
                      refine A_nI hx107 ?_
                      refine A_aload_n 0 rfl rfl rfl ?_
                      refine A_iload_n 3 rfl rfl rfl ?_
                      refine A_pc (pc' := 357) rfl ?_
                      refine A_iconst (v := 3) rfl (by decide) ?_
                      refine A_iadd rfl ?_
                      obtain ⟨hg108, h⟩ := gi_out h
                      refine A_sld rfl hg108 ?_
                      obtain ⟨x109, hx109, h⟩ := kM_out h
                      refine A_nI hx109 ?_
                      refine A_aload_n 0 rfl rfl rfl ?_
                      refine A_iload_n 3 rfl rfl rfl ?_
                      refine A_iconst (v := 4) rfl (by decide) ?_
                      refine A_pc (pc' := 363) rfl ?_
                      refine A_iadd rfl ?_
                      obtain ⟨hg110, h⟩ := gi_out h
                      refine A_sld rfl hg110 ?_
                      obtain ⟨x111, hx111, h⟩ := kM_out h
                      refine A_nI hx111 ?_
                      obtain ⟨q112, M113, hcq112, h⟩ := bnd_out h
                      refine A_callV (ci := 11) (as := [vI x105, vI x107, vI x109, vI x111]) (st' := [vI q102]) (r1 := (some (vI q112), M113)) rfl ml_Law_55 rfl (by decide) (by decide) (Or.inl rfl) rfl rfl (Nat.le_of_ble_eq_true rfl) (by decide) (c_Mod_rules hcq112) (Or.inl rfl) ?_
                      refine A_pc (pc' := 368) rfl ?_
                      refine A_stk (st' := [vI q112, vI q102]) rfl ?_
                      refine A_icmp_eq (tgt := 668) rfl (by decide) (fun hc114 => ?_) (fun hc114 => ?_)
                      · rw [if_pos hc114] at h
                        refine A_pc (pc' := 668) rfl ?_
                        refine A_sub (Ls' := [(0, vA 1), (1, vA 2), (2, vA 184), (3, vI l3)]) [0, 1, 2, 3] rfl ?_
                        exact o_Law_law_668 K18 hK18 _ _ _ _ h
                      · rw [if_neg hc114] at h
                        refine A_pc (pc' := 371) rfl ?_
                        refine A_iconst (v := 0) rfl (by decide) ?_
                        obtain ⟨rfl, rfl⟩ := leaf h
                        exact A_zret rfl rfl (Or.inl rfl)
                    · rw [if_neg hc93] at h
                      by_cases hc115 : x4 = 9
                      · rw [if_pos hc115] at h
                        refine A_tableIn (tgt := 373) (off := 341) rfl (by rw [hc115]; decide) (by rw [hc115]; decide) (by rw [hc115]; rfl) (by decide) ?_
                        refine A_aload_n 1 rfl rfl rfl ?_
                        refine A_aload_n 0 rfl rfl rfl ?_
                        refine A_iload_n 3 rfl rfl rfl ?_
                        refine A_iconst (v := 1) rfl (by decide) ?_
                        refine A_iadd rfl ?_
                        refine A_pc (pc' := 378) rfl ?_
                        obtain ⟨hg116, h⟩ := gi_out h
                        refine A_sld rfl hg116 ?_
                        obtain ⟨x117, hx117, h⟩ := kM_out h
                        refine A_nI hx117 ?_
                        refine A_aload_n 0 rfl rfl rfl ?_
                        refine A_iload_n 3 rfl rfl rfl ?_
                        refine A_iconst (v := 2) rfl (by decide) ?_
                        refine A_iadd rfl ?_
                        obtain ⟨hg118, h⟩ := gi_out h
                        refine A_sld rfl hg118 ?_
                        obtain ⟨x119, hx119, h⟩ := kM_out h
                        refine A_nI hx119 ?_
                        refine A_pc (pc' := 384) rfl ?_
                        refine A_aload_n 0 rfl rfl rfl ?_
                        refine A_iload_n 3 rfl rfl rfl ?_
                        refine A_iconst (v := 3) rfl (by decide) ?_
                        refine A_iadd rfl ?_
                        obtain ⟨hg120, h⟩ := gi_out h
                        refine A_sld rfl hg120 ?_
                        obtain ⟨x121, hx121, h⟩ := kM_out h
                        refine A_nI hx121 ?_
                        refine A_aload_n 0 rfl rfl rfl ?_
                        refine A_pc (pc' := 390) rfl ?_
                        refine A_iload_n 3 rfl rfl rfl ?_
                        refine A_iconst (v := 4) rfl (by decide) ?_
                        refine A_iadd rfl ?_
                        obtain ⟨hg122, h⟩ := gi_out h
                        refine A_sld rfl hg122 ?_
                        obtain ⟨x123, hx123, h⟩ := kM_out h
                        refine A_nI hx123 ?_
                        obtain ⟨q124, M125, hcq124, h⟩ := bnd_out h
                        refine A_callV (ci := 0) (as := [vI x117, vI x119, vI x121, vI x123]) (st' := []) (r1 := (some (vI q124), M125)) rfl ml_Law_56 rfl (by decide) (by decide) (Or.inl rfl) rfl rfl (Nat.le_of_ble_eq_true rfl) (by decide) (c_MW_target hcq124) (Or.inl rfl) ?_
                        refine A_pc (pc' := 397) rfl ?_
                        refine A_stk (st' := [vI q124]) rfl ?_
                        refine A_aload_n 2 rfl rfl rfl ?_
                        refine A_pc (pc' := 398) rfl ?_
                        refine A_aload_n 0 rfl rfl rfl ?_
                        refine A_iload_n 3 rfl rfl rfl ?_
                        refine A_iconst (v := 1) rfl (by decide) ?_
                        refine A_iadd rfl ?_
                        obtain ⟨hg126, h⟩ := gi_out h
                        refine A_sld rfl hg126 ?_
                        obtain ⟨x127, hx127, h⟩ := kM_out h
                        refine A_nI hx127 ?_
                        refine A_aload_n 0 rfl rfl rfl ?_
                        refine A_pc (pc' := 404) rfl ?_
                        refine A_iload_n 3 rfl rfl rfl ?_
                        refine A_iconst (v := 2) rfl (by decide) ?_
                        refine A_iadd rfl ?_
                        obtain ⟨hg128, h⟩ := gi_out h
                        refine A_sld rfl hg128 ?_
                        obtain ⟨x129, hx129, h⟩ := kM_out h
                        refine A_nI hx129 ?_
                        refine A_aload_n 0 rfl rfl rfl ?_
                        refine A_iload_n 3 rfl rfl rfl ?_
                        refine A_pc (pc' := 410) rfl ?_
                        refine A_iconst (v := 3) rfl (by decide) ?_
                        refine A_iadd rfl ?_
                        obtain ⟨hg130, h⟩ := gi_out h
                        refine A_sld rfl hg130 ?_
                        obtain ⟨x131, hx131, h⟩ := kM_out h
                        refine A_nI hx131 ?_
                        refine A_aload_n 0 rfl rfl rfl ?_
                        refine A_iload_n 3 rfl rfl rfl ?_
                        refine A_iconst (v := 4) rfl (by decide) ?_
                        refine A_pc (pc' := 416) rfl ?_
                        refine A_iadd rfl ?_
                        obtain ⟨hg132, h⟩ := gi_out h
                        refine A_sld rfl hg132 ?_
                        obtain ⟨x133, hx133, h⟩ := kM_out h
                        refine A_nI hx133 ?_
                        obtain ⟨q134, M135, hcq134, h⟩ := bnd_out h
                        refine A_callV (ci := 11) (as := [vI x127, vI x129, vI x131, vI x133]) (st' := [vI q124]) (r1 := (some (vI q134), M135)) rfl ml_Law_59 rfl (by decide) (by decide) (Or.inl rfl) rfl rfl (Nat.le_of_ble_eq_true rfl) (by decide) (c_Mod_target hcq134) (Or.inl rfl) ?_
                        refine A_pc (pc' := 421) rfl ?_
                        refine A_stk (st' := [vI q134, vI q124]) rfl ?_
                        refine A_icmp_eq (tgt := 668) rfl (by decide) (fun hc136 => ?_) (fun hc136 => ?_)
                        · rw [if_pos hc136] at h
                          refine A_pc (pc' := 668) rfl ?_
                          refine A_sub (Ls' := [(0, vA 1), (1, vA 2), (2, vA 184), (3, vI l3)]) [0, 1, 2, 3] rfl ?_
                          exact o_Law_law_668 K18 hK18 _ _ _ _ h
                        · rw [if_neg hc136] at h
                          refine A_pc (pc' := 424) rfl ?_
                          refine A_iconst (v := 0) rfl (by decide) ?_
                          obtain ⟨rfl, rfl⟩ := leaf h
                          exact A_zret rfl rfl (Or.inl rfl)
                      · rw [if_neg hc115] at h
                        by_cases hc137 : x4 = 10
                        · rw [if_pos hc137] at h
                          refine A_tableIn (tgt := 426) (off := 394) rfl (by rw [hc137]; decide) (by rw [hc137]; decide) (by rw [hc137]; rfl) (by decide) ?_
                          refine A_aload_n 1 rfl rfl rfl ?_
                          refine A_aload_n 0 rfl rfl rfl ?_
                          refine A_iload_n 3 rfl rfl rfl ?_
                          refine A_iconst (v := 1) rfl (by decide) ?_
                          refine A_iadd rfl ?_
                          refine A_pc (pc' := 431) rfl ?_
                          obtain ⟨hg138, h⟩ := gi_out h
                          refine A_sld rfl hg138 ?_
                          obtain ⟨x139, hx139, h⟩ := kM_out h
                          refine A_nI hx139 ?_
                          refine A_aload_n 0 rfl rfl rfl ?_
                          refine A_iload_n 3 rfl rfl rfl ?_
                          refine A_iconst (v := 2) rfl (by decide) ?_
                          refine A_iadd rfl ?_
                          obtain ⟨hg140, h⟩ := gi_out h
                          refine A_sld rfl hg140 ?_
                          obtain ⟨x141, hx141, h⟩ := kM_out h
                          refine A_nI hx141 ?_
                          refine A_pc (pc' := 437) rfl ?_
                          refine A_aload_n 0 rfl rfl rfl ?_
                          refine A_iload_n 3 rfl rfl rfl ?_
                          refine A_iconst (v := 3) rfl (by decide) ?_
                          refine A_iadd rfl ?_
                          obtain ⟨hg142, h⟩ := gi_out h
                          refine A_sld rfl hg142 ?_
                          obtain ⟨x143, hx143, h⟩ := kM_out h
                          refine A_nI hx143 ?_
                          refine A_i2l rfl ?_
                          refine A_pc (pc' := 443) rfl ?_
                          refine A_bipush (v := 32) rfl (by decide) ?_
                          refine A_lshl rfl ?_
                          refine A_aload_n 0 rfl rfl rfl ?_
                          refine A_iload_n 3 rfl rfl rfl ?_
                          refine A_iconst (v := 4) rfl (by decide) ?_
                          refine A_iadd rfl ?_
                          refine A_pc (pc' := 450) rfl ?_
                          obtain ⟨hg144, h⟩ := gi_out h
                          refine A_sld rfl hg144 ?_
                          obtain ⟨x145, hx145, h⟩ := kM_out h
                          refine A_nI hx145 ?_
                          refine A_i2l rfl ?_
                          refine A_ldc2 (v := 4294967295) rfl (inWG 1518 (by decide +kernel) (by decide +kernel)) ?_
                          refine A_land rfl ?_
                          refine A_lor rfl ?_
                          obtain ⟨j146, hj146, h⟩ := kM_out h
                          refine A_nJ hj146 ?_
                          obtain ⟨q147, M148, hcq147, h⟩ := bnd_out h
                          refine A_callV (ci := 0) (as := [vI x139, vI x141, vJ j146]) (st' := []) (r1 := (some (vI q147), M148)) rfl ml_Law_62 rfl (by decide) (by decide) (Or.inl rfl) rfl rfl (Nat.le_of_ble_eq_true rfl) (by decide) (c_MW_call hcq147) (Or.inl rfl) ?_
                          refine A_pc (pc' := 460) rfl ?_
                          refine A_stk (st' := [vI q147]) rfl ?_
                          refine A_pc (pc' := 460) rfl ?_
                          refine A_aload_n 2 rfl rfl rfl ?_
                          refine A_aload_n 0 rfl rfl rfl ?_
                          refine A_iload_n 3 rfl rfl rfl ?_
                          refine A_iconst (v := 1) rfl (by decide) ?_
                          refine A_iadd rfl ?_
                          obtain ⟨hg149, h⟩ := gi_out h
                          refine A_sld rfl hg149 ?_
                          obtain ⟨x150, hx150, h⟩ := kM_out h
                          refine A_nI hx150 ?_
                          refine A_pc (pc' := 466) rfl ?_
                          refine A_aload_n 0 rfl rfl rfl ?_
                          refine A_iload_n 3 rfl rfl rfl ?_
                          refine A_iconst (v := 2) rfl (by decide) ?_
                          refine A_iadd rfl ?_
                          obtain ⟨hg151, h⟩ := gi_out h
                          refine A_sld rfl hg151 ?_
                          obtain ⟨x152, hx152, h⟩ := kM_out h
                          refine A_nI hx152 ?_
                          refine A_aload_n 0 rfl rfl rfl ?_
                          refine A_pc (pc' := 472) rfl ?_
                          refine A_iload_n 3 rfl rfl rfl ?_
                          refine A_iconst (v := 3) rfl (by decide) ?_
                          refine A_iadd rfl ?_
                          obtain ⟨hg153, h⟩ := gi_out h
                          refine A_sld rfl hg153 ?_
                          obtain ⟨x154, hx154, h⟩ := kM_out h
                          refine A_nI hx154 ?_
                          refine A_i2l rfl ?_
                          refine A_bipush (v := 32) rfl (by decide) ?_
                          refine A_pc (pc' := 479) rfl ?_
                          refine A_lshl rfl ?_
                          refine A_aload_n 0 rfl rfl rfl ?_
                          refine A_iload_n 3 rfl rfl rfl ?_
                          refine A_iconst (v := 4) rfl (by decide) ?_
                          refine A_iadd rfl ?_
                          obtain ⟨hg155, h⟩ := gi_out h
                          refine A_sld rfl hg155 ?_
                          obtain ⟨x156, hx156, h⟩ := kM_out h
                          refine A_nI hx156 ?_
                          refine A_pc (pc' := 485) rfl ?_
                          refine A_i2l rfl ?_
                          refine A_ldc2 (v := 4294967295) rfl (inWG 1518 (by decide +kernel) (by decide +kernel)) ?_
                          refine A_land rfl ?_
                          refine A_lor rfl ?_
                          obtain ⟨j157, hj157, h⟩ := kM_out h
                          refine A_nJ hj157 ?_
                          obtain ⟨q158, M159, hcq158, h⟩ := bnd_out h
                          refine A_callV (ci := 11) (as := [vI x150, vI x152, vJ j157]) (st' := [vI q147]) (r1 := (some (vI q158), M159)) rfl ml_Law_66 rfl (by decide) (by decide) (Or.inl rfl) rfl rfl (Nat.le_of_ble_eq_true rfl) (by decide) (c_Mod_call hcq158) (Or.inl rfl) ?_
                          refine A_pc (pc' := 494) rfl ?_
                          refine A_stk (st' := [vI q158, vI q147]) rfl ?_
                          refine A_icmp_eq (tgt := 668) rfl (by decide) (fun hc160 => ?_) (fun hc160 => ?_)
                          · rw [if_pos hc160] at h
                            refine A_pc (pc' := 668) rfl ?_
                            refine A_sub (Ls' := [(0, vA 1), (1, vA 2), (2, vA 184), (3, vI l3)]) [0, 1, 2, 3] rfl ?_
                            exact o_Law_law_668 K18 hK18 _ _ _ _ h
                          · rw [if_neg hc160] at h
                            refine A_pc (pc' := 497) rfl ?_
                            refine A_iconst (v := 0) rfl (by decide) ?_
                            obtain ⟨rfl, rfl⟩ := leaf h
                            exact A_zret rfl rfl (Or.inl rfl)
                        · rw [if_neg hc137] at h
                          by_cases hc161 : x4 = 11
                          · rw [if_pos hc161] at h
                            refine A_tableIn (tgt := 499) (off := 467) rfl (by rw [hc161]; decide) (by rw [hc161]; decide) (by rw [hc161]; rfl) (by decide) ?_
                            refine A_aload_n 1 rfl rfl rfl ?_
                            obtain ⟨q162, M163, hcq162, h⟩ := bnd_out h
                            refine A_callV (ci := 0) (as := []) (st' := []) (r1 := (some (vI q162), M163)) rfl ml_Law_67 rfl (by decide) (by decide) (Or.inl rfl) rfl rfl (Nat.le_of_ble_eq_true rfl) (by decide) (c_MW_kind hcq162) (Or.inl rfl) ?_
                            refine A_pc (pc' := 503) rfl ?_
                            refine A_stk (st' := [vI q162]) rfl ?_
                            refine A_aload_n 2 rfl rfl rfl ?_
                            obtain ⟨q164, M165, hcq164, h⟩ := bnd_out h
                            refine A_callV (ci := 11) (as := []) (st' := [vI q162]) (r1 := (some (vI q164), M165)) rfl ml_Law_70 rfl (by decide) (by decide) (Or.inl rfl) rfl rfl (Nat.le_of_ble_eq_true rfl) (by decide) (c_Mod_kind hcq164) (Or.inl rfl) ?_
                            refine A_pc (pc' := 507) rfl ?_
                            refine A_stk (st' := [vI q164, vI q162]) rfl ?_
                            refine A_icmp_eq (tgt := 668) rfl (by decide) (fun hc166 => ?_) (fun hc166 => ?_)
                            · rw [if_pos hc166] at h
                              refine A_pc (pc' := 668) rfl ?_
                              refine A_sub (Ls' := [(0, vA 1), (1, vA 2), (2, vA 184), (3, vI l3)]) [0, 1, 2, 3] rfl ?_
                              exact o_Law_law_668 K18 hK18 _ _ _ _ h
                            · rw [if_neg hc166] at h
                              refine A_pc (pc' := 510) rfl ?_
                              refine A_iconst (v := 0) rfl (by decide) ?_
                              obtain ⟨rfl, rfl⟩ := leaf h
                              exact A_zret rfl rfl (Or.inl rfl)
                          · rw [if_neg hc161] at h
                            by_cases hc167 : x4 = 12
                            · rw [if_pos hc167] at h
                              refine A_tableIn (tgt := 512) (off := 480) rfl (by rw [hc167]; decide) (by rw [hc167]; decide) (by rw [hc167]; rfl) (by decide) ?_
                              refine A_aload_n 1 rfl rfl rfl ?_
                              obtain ⟨q168, M169, hcq168, h⟩ := bnd_out h
                              refine A_callV (ci := 0) (as := []) (st' := []) (r1 := (some (vI q168), M169)) rfl ml_Law_71 rfl (by decide) (by decide) (Or.inl rfl) rfl rfl (Nat.le_of_ble_eq_true rfl) (by decide) (c_MW_number hcq168) (Or.inl rfl) ?_
                              refine A_pc (pc' := 516) rfl ?_
                              refine A_stk (st' := [vI q168]) rfl ?_
                              refine A_aload_n 2 rfl rfl rfl ?_
                              obtain ⟨q170, M171, hcq170, h⟩ := bnd_out h
                              refine A_callV (ci := 11) (as := []) (st' := [vI q168]) (r1 := (some (vI q170), M171)) rfl ml_Law_74 rfl (by decide) (by decide) (Or.inl rfl) rfl rfl (Nat.le_of_ble_eq_true rfl) (by decide) (c_Mod_number hcq170) (Or.inl rfl) ?_
                              refine A_pc (pc' := 520) rfl ?_
                              refine A_stk (st' := [vI q170, vI q168]) rfl ?_
                              refine A_icmp_eq (tgt := 668) rfl (by decide) (fun hc172 => ?_) (fun hc172 => ?_)
                              · rw [if_pos hc172] at h
                                refine A_pc (pc' := 668) rfl ?_
                                refine A_sub (Ls' := [(0, vA 1), (1, vA 2), (2, vA 184), (3, vI l3)]) [0, 1, 2, 3] rfl ?_
                                exact o_Law_law_668 K18 hK18 _ _ _ _ h
                              · rw [if_neg hc172] at h
                                refine A_pc (pc' := 523) rfl ?_
                                refine A_iconst (v := 0) rfl (by decide) ?_
                                obtain ⟨rfl, rfl⟩ := leaf h
                                exact A_zret rfl rfl (Or.inl rfl)
                            · rw [if_neg hc167] at h
                              by_cases hc173 : x4 = 13
                              · rw [if_pos hc173] at h
                                refine A_tableIn (tgt := 525) (off := 493) rfl (by rw [hc173]; decide) (by rw [hc173]; decide) (by rw [hc173]; rfl) (by decide) ?_
                                refine A_aload_n 1 rfl rfl rfl ?_
                                refine A_aload_n 0 rfl rfl rfl ?_
                                refine A_iload_n 3 rfl rfl rfl ?_
                                refine A_iconst (v := 1) rfl (by decide) ?_
                                refine A_iadd rfl ?_
                                refine A_pc (pc' := 530) rfl ?_
                                obtain ⟨hg174, h⟩ := gi_out h
                                refine A_sld rfl hg174 ?_
                                obtain ⟨x175, hx175, h⟩ := kM_out h
                                refine A_nI hx175 ?_
                                obtain ⟨q176, M177, hcq176, h⟩ := bnd_out h
                                refine A_callV (ci := 0) (as := [vI x175]) (st' := []) (r1 := (some (vI q176), M177)) rfl ml_Law_75 rfl (by decide) (by decide) (Or.inl rfl) rfl rfl (Nat.le_of_ble_eq_true rfl) (by decide) (c_MW_itemAt hcq176) (Or.inl rfl) ?_
                                refine A_pc (pc' := 534) rfl ?_
                                refine A_stk (st' := [vI q176]) rfl ?_
                                refine A_aload_n 2 rfl rfl rfl ?_
                                refine A_aload_n 0 rfl rfl rfl ?_
                                refine A_iload_n 3 rfl rfl rfl ?_
                                refine A_iconst (v := 1) rfl (by decide) ?_
                                refine A_pc (pc' := 538) rfl ?_
                                refine A_iadd rfl ?_
                                obtain ⟨hg178, h⟩ := gi_out h
                                refine A_sld rfl hg178 ?_
                                obtain ⟨x179, hx179, h⟩ := kM_out h
                                refine A_nI hx179 ?_
                                obtain ⟨q180, M181, hcq180, h⟩ := bnd_out h
                                refine A_callV (ci := 11) (as := [vI x179]) (st' := [vI q176]) (r1 := (some (vI q180), M181)) rfl ml_Law_78 rfl (by decide) (by decide) (Or.inl rfl) rfl rfl (Nat.le_of_ble_eq_true rfl) (by decide) (c_Mod_itemAt hcq180) (Or.inl rfl) ?_
                                refine A_pc (pc' := 543) rfl ?_
                                refine A_stk (st' := [vI q180, vI q176]) rfl ?_
                                refine A_icmp_eq (tgt := 668) rfl (by decide) (fun hc182 => ?_) (fun hc182 => ?_)
                                · rw [if_pos hc182] at h
                                  refine A_pc (pc' := 668) rfl ?_
                                  refine A_sub (Ls' := [(0, vA 1), (1, vA 2), (2, vA 184), (3, vI l3)]) [0, 1, 2, 3] rfl ?_
                                  exact o_Law_law_668 K18 hK18 _ _ _ _ h
                                · rw [if_neg hc182] at h
                                  refine A_pc (pc' := 546) rfl ?_
                                  refine A_iconst (v := 0) rfl (by decide) ?_
                                  obtain ⟨rfl, rfl⟩ := leaf h
                                  exact A_zret rfl rfl (Or.inl rfl)
                              · rw [if_neg hc173] at h
                                by_cases hc183 : x4 = 14
                                · rw [if_pos hc183] at h
                                  refine A_tableIn (tgt := 548) (off := 516) rfl (by rw [hc183]; decide) (by rw [hc183]; decide) (by rw [hc183]; rfl) (by decide) ?_
                                  refine A_aload_n 1 rfl rfl rfl ?_
                                  refine A_aload_n 0 rfl rfl rfl ?_
                                  refine A_iload_n 3 rfl rfl rfl ?_
                                  refine A_iconst (v := 1) rfl (by decide) ?_
                                  refine A_iadd rfl ?_
                                  refine A_pc (pc' := 553) rfl ?_
                                  obtain ⟨hg184, h⟩ := gi_out h
                                  refine A_sld rfl hg184 ?_
                                  obtain ⟨x185, hx185, h⟩ := kM_out h
                                  refine A_nI hx185 ?_
                                  refine A_aload_n 0 rfl rfl rfl ?_
                                  refine A_iload_n 3 rfl rfl rfl ?_
                                  refine A_iconst (v := 2) rfl (by decide) ?_
                                  refine A_iadd rfl ?_
                                  obtain ⟨hg186, h⟩ := gi_out h
                                  refine A_sld rfl hg186 ?_
                                  obtain ⟨x187, hx187, h⟩ := kM_out h
                                  refine A_nI hx187 ?_
                                  refine A_pc (pc' := 559) rfl ?_
                                  obtain ⟨q188, M189, hcq188, h⟩ := bnd_out h
                                  refine A_callV (ci := 0) (as := [vI x185, vI x187]) (st' := []) (r1 := (some (vI q188), M189)) rfl ml_Law_79 rfl (by decide) (by decide) (Or.inl rfl) rfl rfl (Nat.le_of_ble_eq_true rfl) (by decide) (c_MW_count hcq188) (Or.inl rfl) ?_
                                  refine A_pc (pc' := 562) rfl ?_
                                  refine A_stk (st' := [vI q188]) rfl ?_
                                  refine A_aload_n 2 rfl rfl rfl ?_
                                  refine A_aload_n 0 rfl rfl rfl ?_
                                  refine A_iload_n 3 rfl rfl rfl ?_
                                  refine A_iconst (v := 1) rfl (by decide) ?_
                                  refine A_iadd rfl ?_
                                  refine A_pc (pc' := 567) rfl ?_
                                  obtain ⟨hg190, h⟩ := gi_out h
                                  refine A_sld rfl hg190 ?_
                                  obtain ⟨x191, hx191, h⟩ := kM_out h
                                  refine A_nI hx191 ?_
                                  refine A_aload_n 0 rfl rfl rfl ?_
                                  refine A_iload_n 3 rfl rfl rfl ?_
                                  refine A_iconst (v := 2) rfl (by decide) ?_
                                  refine A_iadd rfl ?_
                                  obtain ⟨hg192, h⟩ := gi_out h
                                  refine A_sld rfl hg192 ?_
                                  obtain ⟨x193, hx193, h⟩ := kM_out h
                                  refine A_nI hx193 ?_
                                  refine A_pc (pc' := 573) rfl ?_
                                  obtain ⟨q194, M195, hcq194, h⟩ := bnd_out h
                                  refine A_callV (ci := 11) (as := [vI x191, vI x193]) (st' := [vI q188]) (r1 := (some (vI q194), M195)) rfl ml_Law_83 rfl (by decide) (by decide) (Or.inl rfl) rfl rfl (Nat.le_of_ble_eq_true rfl) (by decide) (c_Mod_count hcq194) (Or.inl rfl) ?_
                                  refine A_pc (pc' := 576) rfl ?_
                                  refine A_stk (st' := [vI q194, vI q188]) rfl ?_
                                  refine A_icmp_eq (tgt := 668) rfl (by decide) (fun hc196 => ?_) (fun hc196 => ?_)
                                  · rw [if_pos hc196] at h
                                    refine A_pc (pc' := 668) rfl ?_
                                    refine A_sub (Ls' := [(0, vA 1), (1, vA 2), (2, vA 184), (3, vI l3)]) [0, 1, 2, 3] rfl ?_
                                    exact o_Law_law_668 K18 hK18 _ _ _ _ h
                                  · rw [if_neg hc196] at h
                                    refine A_pc (pc' := 579) rfl ?_
                                    refine A_iconst (v := 0) rfl (by decide) ?_
                                    obtain ⟨rfl, rfl⟩ := leaf h
                                    exact A_zret rfl rfl (Or.inl rfl)
                                · rw [if_neg hc183] at h
                                  by_cases hc197 : x4 = 15
                                  · rw [if_pos hc197] at h
                                    refine A_tableIn (tgt := 581) (off := 549) rfl (by rw [hc197]; decide) (by rw [hc197]; decide) (by rw [hc197]; rfl) (by decide) ?_
                                    refine A_aload_n 1 rfl rfl rfl ?_
                                    refine A_aload_n 0 rfl rfl rfl ?_
                                    refine A_iload_n 3 rfl rfl rfl ?_
                                    refine A_iconst (v := 1) rfl (by decide) ?_
                                    refine A_iadd rfl ?_
                                    refine A_pc (pc' := 586) rfl ?_
                                    obtain ⟨hg198, h⟩ := gi_out h
                                    refine A_sld rfl hg198 ?_
                                    obtain ⟨x199, hx199, h⟩ := kM_out h
                                    refine A_nI hx199 ?_
                                    refine A_aload_n 0 rfl rfl rfl ?_
                                    refine A_iload_n 3 rfl rfl rfl ?_
                                    refine A_iconst (v := 2) rfl (by decide) ?_
                                    refine A_iadd rfl ?_
                                    obtain ⟨hg200, h⟩ := gi_out h
                                    refine A_sld rfl hg200 ?_
                                    obtain ⟨x201, hx201, h⟩ := kM_out h
                                    refine A_nI hx201 ?_
                                    refine A_pc (pc' := 592) rfl ?_
                                    refine A_aload_n 0 rfl rfl rfl ?_
                                    refine A_iload_n 3 rfl rfl rfl ?_
                                    refine A_iconst (v := 3) rfl (by decide) ?_
                                    refine A_iadd rfl ?_
                                    obtain ⟨hg202, h⟩ := gi_out h
                                    refine A_sld rfl hg202 ?_
                                    obtain ⟨x203, hx203, h⟩ := kM_out h
                                    refine A_nI hx203 ?_
                                    refine A_i2l rfl ?_
                                    refine A_pc (pc' := 598) rfl ?_
                                    refine A_bipush (v := 32) rfl (by decide) ?_
                                    refine A_lshl rfl ?_
                                    refine A_aload_n 0 rfl rfl rfl ?_
                                    refine A_iload_n 3 rfl rfl rfl ?_
                                    refine A_iconst (v := 4) rfl (by decide) ?_
                                    refine A_iadd rfl ?_
                                    refine A_pc (pc' := 605) rfl ?_
                                    obtain ⟨hg204, h⟩ := gi_out h
                                    refine A_sld rfl hg204 ?_
                                    obtain ⟨x205, hx205, h⟩ := kM_out h
                                    refine A_nI hx205 ?_
                                    refine A_i2l rfl ?_
                                    refine A_ldc2 (v := 4294967295) rfl (inWG 1518 (by decide +kernel) (by decide +kernel)) ?_
                                    refine A_land rfl ?_
                                    refine A_lor rfl ?_
                                    obtain ⟨j206, hj206, h⟩ := kM_out h
                                    refine A_nJ hj206 ?_
                                    obtain ⟨q207, M208, hcq207, h⟩ := bnd_out h
                                    refine A_callV (ci := 0) (as := [vI x199, vI x201, vJ j206]) (st' := []) (r1 := (some (vI q207), M208)) rfl ml_Law_84 rfl (by decide) (by decide) (Or.inl rfl) rfl rfl (Nat.le_of_ble_eq_true rfl) (by decide) (c_MW_ask hcq207) (Or.inl rfl) ?_
                                    refine A_pc (pc' := 615) rfl ?_
                                    refine A_stk (st' := [vI q207]) rfl ?_
                                    refine A_pc (pc' := 615) rfl ?_
                                    refine A_aload_n 2 rfl rfl rfl ?_
                                    refine A_aload_n 0 rfl rfl rfl ?_
                                    refine A_iload_n 3 rfl rfl rfl ?_
                                    refine A_iconst (v := 1) rfl (by decide) ?_
                                    refine A_iadd rfl ?_
                                    obtain ⟨hg209, h⟩ := gi_out h
                                    refine A_sld rfl hg209 ?_
                                    obtain ⟨x210, hx210, h⟩ := kM_out h
                                    refine A_nI hx210 ?_
                                    refine A_pc (pc' := 621) rfl ?_
                                    refine A_aload_n 0 rfl rfl rfl ?_
                                    refine A_iload_n 3 rfl rfl rfl ?_
                                    refine A_iconst (v := 2) rfl (by decide) ?_
                                    refine A_iadd rfl ?_
                                    obtain ⟨hg211, h⟩ := gi_out h
                                    refine A_sld rfl hg211 ?_
                                    obtain ⟨x212, hx212, h⟩ := kM_out h
                                    refine A_nI hx212 ?_
                                    refine A_aload_n 0 rfl rfl rfl ?_
                                    refine A_pc (pc' := 627) rfl ?_
                                    refine A_iload_n 3 rfl rfl rfl ?_
                                    refine A_iconst (v := 3) rfl (by decide) ?_
                                    refine A_iadd rfl ?_
                                    obtain ⟨hg213, h⟩ := gi_out h
                                    refine A_sld rfl hg213 ?_
                                    obtain ⟨x214, hx214, h⟩ := kM_out h
                                    refine A_nI hx214 ?_
                                    refine A_i2l rfl ?_
                                    refine A_bipush (v := 32) rfl (by decide) ?_
                                    refine A_pc (pc' := 634) rfl ?_
                                    refine A_lshl rfl ?_
                                    refine A_aload_n 0 rfl rfl rfl ?_
                                    refine A_iload_n 3 rfl rfl rfl ?_
                                    refine A_iconst (v := 4) rfl (by decide) ?_
                                    refine A_iadd rfl ?_
                                    obtain ⟨hg215, h⟩ := gi_out h
                                    refine A_sld rfl hg215 ?_
                                    obtain ⟨x216, hx216, h⟩ := kM_out h
                                    refine A_nI hx216 ?_
                                    refine A_pc (pc' := 640) rfl ?_
                                    refine A_i2l rfl ?_
                                    refine A_ldc2 (v := 4294967295) rfl (inWG 1518 (by decide +kernel) (by decide +kernel)) ?_
                                    refine A_land rfl ?_
                                    refine A_lor rfl ?_
                                    obtain ⟨j217, hj217, h⟩ := kM_out h
                                    refine A_nJ hj217 ?_
                                    obtain ⟨q218, M219, hcq218, h⟩ := bnd_out h
                                    refine A_callV (ci := 11) (as := [vI x210, vI x212, vJ j217]) (st' := [vI q207]) (r1 := (some (vI q218), M219)) rfl ml_Law_87 rfl (by decide) (by decide) (Or.inl rfl) rfl rfl (Nat.le_of_ble_eq_true rfl) (by decide) (c_Mod_ask hcq218) (Or.inl rfl) ?_
                                    refine A_pc (pc' := 649) rfl ?_
                                    refine A_stk (st' := [vI q218, vI q207]) rfl ?_
                                    refine A_icmp_eq (tgt := 668) rfl (by decide) (fun hc220 => ?_) (fun hc220 => ?_)
                                    · rw [if_pos hc220] at h
                                      refine A_pc (pc' := 668) rfl ?_
                                      refine A_sub (Ls' := [(0, vA 1), (1, vA 2), (2, vA 184), (3, vI l3)]) [0, 1, 2, 3] rfl ?_
                                      exact o_Law_law_668 K18 hK18 _ _ _ _ h
                                    · rw [if_neg hc220] at h
                                      refine A_pc (pc' := 652) rfl ?_
                                      refine A_iconst (v := 0) rfl (by decide) ?_
                                      obtain ⟨rfl, rfl⟩ := leaf h
                                      exact A_zret rfl rfl (Or.inl rfl)
                                  · rw [if_neg hc197] at h
                                    by_cases hc221 : x4 = 16
                                    · rw [if_pos hc221] at h
                                      refine A_tableIn (tgt := 654) (off := 622) rfl (by rw [hc221]; decide) (by rw [hc221]; decide) (by rw [hc221]; rfl) (by decide) ?_
                                      refine A_aload_n 1 rfl rfl rfl ?_
                                      obtain ⟨q222, M223, hcq222, h⟩ := bnd_out h
                                      refine A_callV (ci := 0) (as := []) (st' := []) (r1 := (some (vJ q222), M223)) rfl ml_Law_88 rfl (by decide) (by decide) (Or.inl rfl) rfl rfl (Nat.le_of_ble_eq_true rfl) (by decide) (c_MW_asked hcq222) (Or.inl rfl) ?_
                                      refine A_pc (pc' := 658) rfl ?_
                                      refine A_stk (st' := [vJ q222]) rfl ?_
                                      refine A_aload_n 2 rfl rfl rfl ?_
                                      obtain ⟨q224, M225, hcq224, h⟩ := bnd_out h
                                      refine A_callV (ci := 11) (as := []) (st' := [vJ q222]) (r1 := (some (vJ q224), M225)) rfl ml_Law_92 rfl (by decide) (by decide) (Or.inl rfl) rfl rfl (Nat.le_of_ble_eq_true rfl) (by decide) (c_Mod_asked hcq224) (Or.inl rfl) ?_
                                      refine A_pc (pc' := 662) rfl ?_
                                      refine A_stk (st' := [vJ q224, vJ q222]) rfl ?_
                                      refine A_lcmp rfl ?_
                                      refine A_pc (pc' := 663) rfl ?_
                                      refine A_if_eq (tgt := 668) rfl (by decide) (fun hc226 => ?_) (fun hc226 => ?_)
                                      · rw [if_pos hc226] at h
                                        refine A_pc (pc' := 668) rfl ?_
                                        refine A_sub (Ls' := [(0, vA 1), (1, vA 2), (2, vA 184), (3, vI l3)]) [0, 1, 2, 3] rfl ?_
                                        exact o_Law_law_668 K18 hK18 _ _ _ _ h
                                      · rw [if_neg hc226] at h
                                        refine A_pc (pc' := 666) rfl ?_
                                        refine A_iconst (v := 0) rfl (by decide) ?_
                                        obtain ⟨rfl, rfl⟩ := leaf h
                                        exact A_zret rfl rfl (Or.inl rfl)
                                    · rw [if_neg hc221] at h
                                      refine A_tableDef (tgt := 668) [0, 1, 2, 3, 4, 5, 6, 7, 8, 9, 10, 11, 12, 13, 14, 15, 16] rfl (by decide) (by decide) (fa_cons (ne_i hc5 (by decide)) (fa_cons (ne_i hc16 (by decide)) (fa_cons (ne_i hc26 (by decide)) (fa_cons (ne_i hc40 (by decide)) (fa_cons (ne_i hc54 (by decide)) (fa_cons (ne_i hc60 (by decide)) (fa_cons (ne_i hc70 (by decide)) (fa_cons (ne_i hc75 (by decide)) (fa_cons (ne_i hc93 (by decide)) (fa_cons (ne_i hc115 (by decide)) (fa_cons (ne_i hc137 (by decide)) (fa_cons (ne_i hc161 (by decide)) (fa_cons (ne_i hc167 (by decide)) (fa_cons (ne_i hc173 (by decide)) (fa_cons (ne_i hc183 (by decide)) (fa_cons (ne_i hc197 (by decide)) (fa_cons (ne_i hc221 (by decide)) fa_nil))))))))))))))))) (by decide) ?_
                                      refine A_pc (pc' := 668) rfl ?_
                                      refine A_sub (Ls' := [(0, vA 1), (1, vA 2), (2, vA 184), (3, vI l3)]) [0, 1, 2, 3] rfl ?_
                                      exact o_Law_law_668 K18 hK18 _ _ _ _ h
theorem o_Law_law_18 {l : Launch} {g : ax_G} : ∀ (n : Nat) (l3 : Int32) (M : ax_M) (r : Int32) (M' : ax_M), f_Law_law_18 (gL g) (gx g)  n l3 M = some (r, M') → AW l g true Y_Law_law 139 (some (vI r), M') 18 [(0, vA 1), (1, vA 2), (2, vA 184), (3, vI l3)] [] M := by
  intro n
  induction n with
  | zero =>
    intro l3 M r M' h
    cases h
  | succ n ih =>
    intro l3 M r M' h
    exact o_Law_law_18_b  _ ih _ _ _ _ h
def f_Law_law (L : Nat) (xs : Nat → Int32) (M : ax_M) : Option (Int32 × ax_M) :=
  f_Law_law_18 L xs 600 0 M
theorem o_Law_law {l : Launch} {g : ax_G} (M : ax_M) (r : Int32) (M' : ax_M) (h : f_Law_law (gL g) (gx g) M = some (r, M')) : AW l g true Y_Law_law 139 (some (vI r), M') 16 [(2, vA 184), (1, vA 2), (0, vA 1)] [] M := by
  unfold f_Law_law at h
  refine A_iconst (v := 0) rfl (by decide) ?_
  refine A_istore_n (Ls' := [(3, vI 0), (2, vA 184), (1, vA 2), (0, vA 1)]) rfl rfl (by decide) rfl ?_
  refine A_pc (pc' := 18) rfl ?_
  refine A_sub (Ls' := [(0, vA 1), (1, vA 2), (2, vA 184), (3, vI 0)]) [3, 2, 1, 0] rfl ?_
  exact o_Law_law_18  _ _ _ _ _ h
