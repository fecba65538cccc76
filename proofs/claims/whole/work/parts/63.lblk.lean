/-! the blocks of the law, over any relation that the calls keep -/
def tLh : List (Nat × Instr × Nat) := [(0, .new 7, 3), (3, .dup, 1), (4, .invokespecial 9, 3), (7, .astore_n 1, 1), (8, .new 10, 3), (11, .dup, 1), (12, .invokespecial 12, 3), (15, .astore_n 2, 1), (16, .iconst 0, 1), (17, .istore_n 3, 1), (18, .iload_n 3, 1), (19, .aload_n 0, 1), (20, .arraylength, 1), (21, .bipush 6, 2), (23, .isub, 1), (24, .if_icmp .gt 1033, 3), (27, .aload_n 0, 1), (28, .iload_n 3, 1), (29, .iaload, 1), (30, .bipush 31, 2), (32, .iand, 1), (33, .tableswitch 1018 0 30 #[139, 202, 225, 238, 251, 284, 317, 350, 383, 416, 449, 472, 521, 534, 567, 590, 633, 656, 669, 692, 705, 728, 761, 804, 847, 870, 893, 916, 949, 972, 995], 139), (1051, .iinc 3 6, 3), (1054, .goto (-1036), 3), (1057, .iconst 1, 1), (1058, .ireturn, 1)]
set_option maxRecDepth 20000 in
theorem htLh : ∀ q ∈ tLh, decode code q.1 = .ok (q.2.1, q.2.2) := by decide +kernel
def tL_feed : List (Nat × Instr × Nat) := [(172, .aload_n 1, 1), (173, .aload_n 0, 1), (174, .iload_n 3, 1), (175, .iconst 1, 1), (176, .iadd, 1), (177, .iaload, 1), (178, .aload_n 0, 1), (179, .iload_n 3, 1), (180, .iconst 2, 1), (181, .iadd, 1), (182, .iaload, 1), (183, .aload_n 0, 1), (184, .iload_n 3, 1), (185, .iconst 3, 1), (186, .iadd, 1), (187, .iaload, 1), (188, .aload_n 0, 1), (189, .iload_n 3, 1), (190, .iconst 4, 1), (191, .iadd, 1), (192, .iaload, 1), (193, .aload_n 0, 1), (194, .iload_n 3, 1), (195, .iconst 5, 1), (196, .iadd, 1), (197, .iaload, 1), (198, .invokevirtual 13, 3), (201, .aload_n 2, 1), (202, .aload_n 0, 1), (203, .iload_n 3, 1), (204, .iconst 1, 1), (205, .iadd, 1), (206, .iaload, 1), (207, .aload_n 0, 1), (208, .iload_n 3, 1), (209, .iconst 2, 1), (210, .iadd, 1), (211, .iaload, 1), (212, .aload_n 0, 1), (213, .iload_n 3, 1), (214, .iconst 3, 1), (215, .iadd, 1), (216, .iaload, 1), (217, .aload_n 0, 1), (218, .iload_n 3, 1), (219, .iconst 4, 1), (220, .iadd, 1), (221, .iaload, 1), (222, .aload_n 0, 1), (223, .iload_n 3, 1), (224, .iconst 5, 1), (225, .iadd, 1), (226, .iaload, 1), (227, .invokevirtual 17, 3), (230, .if_icmp .eq 821, 3), (233, .iconst 0, 1), (234, .ireturn, 1)]
set_option maxRecDepth 20000 in
theorem htL_feed : ∀ q ∈ tL_feed, decode code q.1 = .ok (q.2.1, q.2.2) := by decide +kernel
def tL_end : List (Nat × Instr × Nat) := [(235, .aload_n 1, 1), (236, .aload_n 0, 1), (237, .iload_n 3, 1), (238, .iconst 1, 1), (239, .iadd, 1), (240, .iaload, 1), (241, .invokevirtual 18, 3), (244, .aload_n 2, 1), (245, .aload_n 0, 1), (246, .iload_n 3, 1), (247, .iconst 1, 1), (248, .iadd, 1), (249, .iaload, 1), (250, .invokevirtual 22, 3), (253, .if_icmp .eq 798, 3), (256, .iconst 0, 1), (257, .ireturn, 1)]
set_option maxRecDepth 20000 in
theorem htL_end : ∀ q ∈ tL_end, decode code q.1 = .ok (q.2.1, q.2.2) := by decide +kernel
def tL_line : List (Nat × Instr × Nat) := [(258, .aload_n 1, 1), (259, .invokevirtual 23, 3), (262, .aload_n 2, 1), (263, .invokevirtual 27, 3), (266, .if_icmp .eq 785, 3), (269, .iconst 0, 1), (270, .ireturn, 1)]
set_option maxRecDepth 20000 in
theorem htL_line : ∀ q ∈ tL_line, decode code q.1 = .ok (q.2.1, q.2.2) := by decide +kernel
def tL_rule : List (Nat × Instr × Nat) := [(271, .aload_n 1, 1), (272, .invokevirtual 28, 3), (275, .aload_n 2, 1), (276, .invokevirtual 31, 3), (279, .if_icmp .eq 772, 3), (282, .iconst 0, 1), (283, .ireturn, 1)]
set_option maxRecDepth 20000 in
theorem htL_rule : ∀ q ∈ tL_rule, decode code q.1 = .ok (q.2.1, q.2.2) := by decide +kernel
def tL_coach : List (Nat × Instr × Nat) := [(284, .aload_n 1, 1), (285, .aload_n 0, 1), (286, .iload_n 3, 1), (287, .iconst 1, 1), (288, .iadd, 1), (289, .iaload, 1), (290, .aload_n 0, 1), (291, .iload_n 3, 1), (292, .iconst 2, 1), (293, .iadd, 1), (294, .iaload, 1), (295, .invokevirtual 32, 3), (298, .aload_n 2, 1), (299, .aload_n 0, 1), (300, .iload_n 3, 1), (301, .iconst 1, 1), (302, .iadd, 1), (303, .iaload, 1), (304, .aload_n 0, 1), (305, .iload_n 3, 1), (306, .iconst 2, 1), (307, .iadd, 1), (308, .iaload, 1), (309, .invokevirtual 36, 3), (312, .if_icmp .eq 739, 3), (315, .iconst 0, 1), (316, .ireturn, 1)]
set_option maxRecDepth 20000 in
theorem htL_coach : ∀ q ∈ tL_coach, decode code q.1 = .ok (q.2.1, q.2.2) := by decide +kernel
def tL_way : List (Nat × Instr × Nat) := [(317, .aload_n 1, 1), (318, .aload_n 0, 1), (319, .iload_n 3, 1), (320, .iconst 1, 1), (321, .iadd, 1), (322, .iaload, 1), (323, .aload_n 0, 1), (324, .iload_n 3, 1), (325, .iconst 2, 1), (326, .iadd, 1), (327, .iaload, 1), (328, .invokevirtual 37, 3), (331, .aload_n 2, 1), (332, .aload_n 0, 1), (333, .iload_n 3, 1), (334, .iconst 1, 1), (335, .iadd, 1), (336, .iaload, 1), (337, .aload_n 0, 1), (338, .iload_n 3, 1), (339, .iconst 2, 1), (340, .iadd, 1), (341, .iaload, 1), (342, .invokevirtual 40, 3), (345, .if_icmp .eq 706, 3), (348, .iconst 0, 1), (349, .ireturn, 1)]
set_option maxRecDepth 20000 in
theorem htL_way : ∀ q ∈ tL_way, decode code q.1 = .ok (q.2.1, q.2.2) := by decide +kernel
def tL_stop : List (Nat × Instr × Nat) := [(350, .aload_n 1, 1), (351, .aload_n 0, 1), (352, .iload_n 3, 1), (353, .iconst 1, 1), (354, .iadd, 1), (355, .iaload, 1), (356, .aload_n 0, 1), (357, .iload_n 3, 1), (358, .iconst 2, 1), (359, .iadd, 1), (360, .iaload, 1), (361, .invokevirtual 41, 3), (364, .aload_n 2, 1), (365, .aload_n 0, 1), (366, .iload_n 3, 1), (367, .iconst 1, 1), (368, .iadd, 1), (369, .iaload, 1), (370, .aload_n 0, 1), (371, .iload_n 3, 1), (372, .iconst 2, 1), (373, .iadd, 1), (374, .iaload, 1), (375, .invokevirtual 44, 3), (378, .if_icmp .eq 673, 3), (381, .iconst 0, 1), (382, .ireturn, 1)]
set_option maxRecDepth 20000 in
theorem htL_stop : ∀ q ∈ tL_stop, decode code q.1 = .ok (q.2.1, q.2.2) := by decide +kernel
def tL_rider : List (Nat × Instr × Nat) := [(383, .aload_n 1, 1), (384, .aload_n 0, 1), (385, .iload_n 3, 1), (386, .iconst 1, 1), (387, .iadd, 1), (388, .iaload, 1), (389, .aload_n 0, 1), (390, .iload_n 3, 1), (391, .iconst 2, 1), (392, .iadd, 1), (393, .iaload, 1), (394, .invokevirtual 45, 3), (397, .aload_n 2, 1), (398, .aload_n 0, 1), (399, .iload_n 3, 1), (400, .iconst 1, 1), (401, .iadd, 1), (402, .iaload, 1), (403, .aload_n 0, 1), (404, .iload_n 3, 1), (405, .iconst 2, 1), (406, .iadd, 1), (407, .iaload, 1), (408, .invokevirtual 48, 3), (411, .if_icmp .eq 640, 3), (414, .iconst 0, 1), (415, .ireturn, 1)]
set_option maxRecDepth 20000 in
theorem htL_rider : ∀ q ∈ tL_rider, decode code q.1 = .ok (q.2.1, q.2.2) := by decide +kernel
def tL_inside : List (Nat × Instr × Nat) := [(416, .aload_n 1, 1), (417, .aload_n 0, 1), (418, .iload_n 3, 1), (419, .iconst 1, 1), (420, .iadd, 1), (421, .iaload, 1), (422, .aload_n 0, 1), (423, .iload_n 3, 1), (424, .iconst 2, 1), (425, .iadd, 1), (426, .iaload, 1), (427, .invokevirtual 49, 3), (430, .aload_n 2, 1), (431, .aload_n 0, 1), (432, .iload_n 3, 1), (433, .iconst 1, 1), (434, .iadd, 1), (435, .iaload, 1), (436, .aload_n 0, 1), (437, .iload_n 3, 1), (438, .iconst 2, 1), (439, .iadd, 1), (440, .iaload, 1), (441, .invokevirtual 52, 3), (444, .if_icmp .eq 607, 3), (447, .iconst 0, 1), (448, .ireturn, 1)]
set_option maxRecDepth 20000 in
theorem htL_inside : ∀ q ∈ tL_inside, decode code q.1 = .ok (q.2.1, q.2.2) := by decide +kernel
def tL_outside : List (Nat × Instr × Nat) := [(449, .aload_n 1, 1), (450, .aload_n 0, 1), (451, .iload_n 3, 1), (452, .iconst 1, 1), (453, .iadd, 1), (454, .iaload, 1), (455, .aload_n 0, 1), (456, .iload_n 3, 1), (457, .iconst 2, 1), (458, .iadd, 1), (459, .iaload, 1), (460, .invokevirtual 53, 3), (463, .aload_n 2, 1), (464, .aload_n 0, 1), (465, .iload_n 3, 1), (466, .iconst 1, 1), (467, .iadd, 1), (468, .iaload, 1), (469, .aload_n 0, 1), (470, .iload_n 3, 1), (471, .iconst 2, 1), (472, .iadd, 1), (473, .iaload, 1), (474, .invokevirtual 56, 3), (477, .if_icmp .eq 574, 3), (480, .iconst 0, 1), (481, .ireturn, 1)]
set_option maxRecDepth 20000 in
theorem htL_outside : ∀ q ∈ tL_outside, decode code q.1 = .ok (q.2.1, q.2.2) := by decide +kernel
def tL_pass : List (Nat × Instr × Nat) := [(482, .aload_n 1, 1), (483, .aload_n 0, 1), (484, .iload_n 3, 1), (485, .iconst 1, 1), (486, .iadd, 1), (487, .iaload, 1), (488, .invokevirtual 57, 3), (491, .aload_n 2, 1), (492, .aload_n 0, 1), (493, .iload_n 3, 1), (494, .iconst 1, 1), (495, .iadd, 1), (496, .iaload, 1), (497, .invokevirtual 60, 3), (500, .if_icmp .eq 551, 3), (503, .iconst 0, 1), (504, .ireturn, 1)]
set_option maxRecDepth 20000 in
theorem htL_pass : ∀ q ∈ tL_pass, decode code q.1 = .ok (q.2.1, q.2.2) := by decide +kernel
def tL_shut : List (Nat × Instr × Nat) := [(505, .aload_n 1, 1), (506, .aload_n 0, 1), (507, .iload_n 3, 1), (508, .iconst 1, 1), (509, .iadd, 1), (510, .iaload, 1), (511, .aload_n 0, 1), (512, .iload_n 3, 1), (513, .iconst 2, 1), (514, .iadd, 1), (515, .iaload, 1), (516, .ifCond .eq 7, 3), (519, .iconst 1, 1), (520, .goto 4, 3), (523, .iconst 0, 1), (524, .invokevirtual 61, 3), (527, .aload_n 2, 1), (528, .aload_n 0, 1), (529, .iload_n 3, 1), (530, .iconst 1, 1), (531, .iadd, 1), (532, .iaload, 1), (533, .aload_n 0, 1), (534, .iload_n 3, 1), (535, .iconst 2, 1), (536, .iadd, 1), (537, .iaload, 1), (538, .ifCond .eq 7, 3), (541, .iconst 1, 1), (542, .goto 4, 3), (545, .iconst 0, 1), (546, .invokevirtual 65, 3), (549, .if_icmp .eq 502, 3), (552, .iconst 0, 1), (553, .ireturn, 1)]
set_option maxRecDepth 20000 in
theorem htL_shut : ∀ q ∈ tL_shut, decode code q.1 = .ok (q.2.1, q.2.2) := by decide +kernel
def tL_undo : List (Nat × Instr × Nat) := [(554, .aload_n 1, 1), (555, .invokevirtual 66, 3), (558, .aload_n 2, 1), (559, .invokevirtual 69, 3), (562, .if_icmp .eq 489, 3), (565, .iconst 0, 1), (566, .ireturn, 1)]
set_option maxRecDepth 20000 in
theorem htL_undo : ∀ q ∈ tL_undo, decode code q.1 = .ok (q.2.1, q.2.2) := by decide +kernel
def tL_run : List (Nat × Instr × Nat) := [(567, .aload_n 1, 1), (568, .aload_n 0, 1), (569, .iload_n 3, 1), (570, .iconst 1, 1), (571, .iadd, 1), (572, .iaload, 1), (573, .aload_n 0, 1), (574, .iload_n 3, 1), (575, .iconst 2, 1), (576, .iadd, 1), (577, .iaload, 1), (578, .invokevirtual 70, 3), (581, .aload_n 2, 1), (582, .aload_n 0, 1), (583, .iload_n 3, 1), (584, .iconst 1, 1), (585, .iadd, 1), (586, .iaload, 1), (587, .aload_n 0, 1), (588, .iload_n 3, 1), (589, .iconst 2, 1), (590, .iadd, 1), (591, .iaload, 1), (592, .invokevirtual 73, 3), (595, .if_icmp .eq 456, 3), (598, .iconst 0, 1), (599, .ireturn, 1)]
set_option maxRecDepth 20000 in
theorem htL_run : ∀ q ∈ tL_run, decode code q.1 = .ok (q.2.1, q.2.2) := by decide +kernel
def tL_soonest : List (Nat × Instr × Nat) := [(600, .aload_n 1, 1), (601, .aload_n 0, 1), (602, .iload_n 3, 1), (603, .iconst 1, 1), (604, .iadd, 1), (605, .iaload, 1), (606, .invokevirtual 74, 3), (609, .aload_n 2, 1), (610, .aload_n 0, 1), (611, .iload_n 3, 1), (612, .iconst 1, 1), (613, .iadd, 1), (614, .iaload, 1), (615, .invokevirtual 77, 3), (618, .if_icmp .eq 433, 3), (621, .iconst 0, 1), (622, .ireturn, 1)]
set_option maxRecDepth 20000 in
theorem htL_soonest : ∀ q ∈ tL_soonest, decode code q.1 = .ok (q.2.1, q.2.2) := by decide +kernel
def tL_row : List (Nat × Instr × Nat) := [(623, .aload_n 1, 1), (624, .aload_n 0, 1), (625, .iload_n 3, 1), (626, .iconst 1, 1), (627, .iadd, 1), (628, .iaload, 1), (629, .aload_n 0, 1), (630, .iload_n 3, 1), (631, .iconst 2, 1), (632, .iadd, 1), (633, .iaload, 1), (634, .aload_n 0, 1), (635, .iload_n 3, 1), (636, .iconst 3, 1), (637, .iadd, 1), (638, .iaload, 1), (639, .invokevirtual 78, 3), (642, .aload_n 2, 1), (643, .aload_n 0, 1), (644, .iload_n 3, 1), (645, .iconst 1, 1), (646, .iadd, 1), (647, .iaload, 1), (648, .aload_n 0, 1), (649, .iload_n 3, 1), (650, .iconst 2, 1), (651, .iadd, 1), (652, .iaload, 1), (653, .aload_n 0, 1), (654, .iload_n 3, 1), (655, .iconst 3, 1), (656, .iadd, 1), (657, .iaload, 1), (658, .invokevirtual 82, 3), (661, .if_icmp .eq 390, 3), (664, .iconst 0, 1), (665, .ireturn, 1)]
set_option maxRecDepth 20000 in
theorem htL_row : ∀ q ∈ tL_row, decode code q.1 = .ok (q.2.1, q.2.2) := by decide +kernel
def tL_latest : List (Nat × Instr × Nat) := [(666, .aload_n 1, 1), (667, .aload_n 0, 1), (668, .iload_n 3, 1), (669, .iconst 1, 1), (670, .iadd, 1), (671, .iaload, 1), (672, .invokevirtual 83, 3), (675, .aload_n 2, 1), (676, .aload_n 0, 1), (677, .iload_n 3, 1), (678, .iconst 1, 1), (679, .iadd, 1), (680, .iaload, 1), (681, .invokevirtual 86, 3), (684, .if_icmp .eq 367, 3), (687, .iconst 0, 1), (688, .ireturn, 1)]
set_option maxRecDepth 20000 in
theorem htL_latest : ∀ q ∈ tL_latest, decode code q.1 = .ok (q.2.1, q.2.2) := by decide +kernel
def tL_lost : List (Nat × Instr × Nat) := [(689, .aload_n 1, 1), (690, .invokevirtual 87, 3), (693, .aload_n 2, 1), (694, .invokevirtual 90, 3), (697, .if_icmp .eq 354, 3), (700, .iconst 0, 1), (701, .ireturn, 1)]
set_option maxRecDepth 20000 in
theorem htL_lost : ∀ q ∈ tL_lost, decode code q.1 = .ok (q.2.1, q.2.2) := by decide +kernel
def tL_voice : List (Nat × Instr × Nat) := [(702, .aload_n 1, 1), (703, .aload_n 0, 1), (704, .iload_n 3, 1), (705, .iconst 1, 1), (706, .iadd, 1), (707, .iaload, 1), (708, .invokevirtual 91, 3), (711, .aload_n 2, 1), (712, .aload_n 0, 1), (713, .iload_n 3, 1), (714, .iconst 1, 1), (715, .iadd, 1), (716, .iaload, 1), (717, .invokevirtual 94, 3), (720, .if_icmp .eq 331, 3), (723, .iconst 0, 1), (724, .ireturn, 1)]
set_option maxRecDepth 20000 in
theorem htL_voice : ∀ q ∈ tL_voice, decode code q.1 = .ok (q.2.1, q.2.2) := by decide +kernel
def tL_voices : List (Nat × Instr × Nat) := [(725, .aload_n 1, 1), (726, .invokevirtual 95, 3), (729, .aload_n 2, 1), (730, .invokevirtual 98, 3), (733, .if_icmp .eq 318, 3), (736, .iconst 0, 1), (737, .ireturn, 1)]
set_option maxRecDepth 20000 in
theorem htL_voices : ∀ q ∈ tL_voices, decode code q.1 = .ok (q.2.1, q.2.2) := by decide +kernel
def tL_put : List (Nat × Instr × Nat) := [(738, .aload_n 1, 1), (739, .aload_n 0, 1), (740, .iload_n 3, 1), (741, .iconst 1, 1), (742, .iadd, 1), (743, .iaload, 1), (744, .invokevirtual 99, 3), (747, .aload_n 2, 1), (748, .aload_n 0, 1), (749, .iload_n 3, 1), (750, .iconst 1, 1), (751, .iadd, 1), (752, .iaload, 1), (753, .invokevirtual 102, 3), (756, .if_icmp .eq 295, 3), (759, .iconst 0, 1), (760, .ireturn, 1)]
set_option maxRecDepth 20000 in
theorem htL_put : ∀ q ∈ tL_put, decode code q.1 = .ok (q.2.1, q.2.2) := by decide +kernel
def tL_family : List (Nat × Instr × Nat) := [(761, .aload_n 1, 1), (762, .aload_n 0, 1), (763, .iload_n 3, 1), (764, .iconst 1, 1), (765, .iadd, 1), (766, .iaload, 1), (767, .aload_n 0, 1), (768, .iload_n 3, 1), (769, .iconst 2, 1), (770, .iadd, 1), (771, .iaload, 1), (772, .invokevirtual 103, 3), (775, .aload_n 2, 1), (776, .aload_n 0, 1), (777, .iload_n 3, 1), (778, .iconst 1, 1), (779, .iadd, 1), (780, .iaload, 1), (781, .aload_n 0, 1), (782, .iload_n 3, 1), (783, .iconst 2, 1), (784, .iadd, 1), (785, .iaload, 1), (786, .invokevirtual 106, 3), (789, .if_icmp .eq 262, 3), (792, .iconst 0, 1), (793, .ireturn, 1)]
set_option maxRecDepth 20000 in
theorem htL_family : ∀ q ∈ tL_family, decode code q.1 = .ok (q.2.1, q.2.2) := by decide +kernel
def tL_meet : List (Nat × Instr × Nat) := [(794, .aload_n 1, 1), (795, .aload_n 0, 1), (796, .iload_n 3, 1), (797, .iconst 1, 1), (798, .iadd, 1), (799, .iaload, 1), (800, .aload_n 0, 1), (801, .iload_n 3, 1), (802, .iconst 2, 1), (803, .iadd, 1), (804, .iaload, 1), (805, .aload_n 0, 1), (806, .iload_n 3, 1), (807, .iconst 3, 1), (808, .iadd, 1), (809, .iaload, 1), (810, .invokevirtual 107, 3), (813, .aload_n 2, 1), (814, .aload_n 0, 1), (815, .iload_n 3, 1), (816, .iconst 1, 1), (817, .iadd, 1), (818, .iaload, 1), (819, .aload_n 0, 1), (820, .iload_n 3, 1), (821, .iconst 2, 1), (822, .iadd, 1), (823, .iaload, 1), (824, .aload_n 0, 1), (825, .iload_n 3, 1), (826, .iconst 3, 1), (827, .iadd, 1), (828, .iaload, 1), (829, .invokevirtual 110, 3), (832, .if_icmp .eq 219, 3), (835, .iconst 0, 1), (836, .ireturn, 1)]
set_option maxRecDepth 20000 in
theorem htL_meet : ∀ q ∈ tL_meet, decode code q.1 = .ok (q.2.1, q.2.2) := by decide +kernel
def tL_seen : List (Nat × Instr × Nat) := [(837, .aload_n 1, 1), (838, .aload_n 0, 1), (839, .iload_n 3, 1), (840, .iconst 1, 1), (841, .iadd, 1), (842, .iaload, 1), (843, .aload_n 0, 1), (844, .iload_n 3, 1), (845, .iconst 2, 1), (846, .iadd, 1), (847, .iaload, 1), (848, .aload_n 0, 1), (849, .iload_n 3, 1), (850, .iconst 3, 1), (851, .iadd, 1), (852, .iaload, 1), (853, .invokevirtual 111, 3), (856, .aload_n 2, 1), (857, .aload_n 0, 1), (858, .iload_n 3, 1), (859, .iconst 1, 1), (860, .iadd, 1), (861, .iaload, 1), (862, .aload_n 0, 1), (863, .iload_n 3, 1), (864, .iconst 2, 1), (865, .iadd, 1), (866, .iaload, 1), (867, .aload_n 0, 1), (868, .iload_n 3, 1), (869, .iconst 3, 1), (870, .iadd, 1), (871, .iaload, 1), (872, .invokevirtual 114, 3), (875, .if_icmp .eq 176, 3), (878, .iconst 0, 1), (879, .ireturn, 1)]
set_option maxRecDepth 20000 in
theorem htL_seen : ∀ q ∈ tL_seen, decode code q.1 = .ok (q.2.1, q.2.2) := by decide +kernel
def tL_gotIn : List (Nat × Instr × Nat) := [(880, .aload_n 1, 1), (881, .aload_n 0, 1), (882, .iload_n 3, 1), (883, .iconst 1, 1), (884, .iadd, 1), (885, .iaload, 1), (886, .invokevirtual 115, 3), (889, .aload_n 2, 1), (890, .aload_n 0, 1), (891, .iload_n 3, 1), (892, .iconst 1, 1), (893, .iadd, 1), (894, .iaload, 1), (895, .invokevirtual 118, 3), (898, .if_icmp .eq 153, 3), (901, .iconst 0, 1), (902, .ireturn, 1)]
set_option maxRecDepth 20000 in
theorem htL_gotIn : ∀ q ∈ tL_gotIn, decode code q.1 = .ok (q.2.1, q.2.2) := by decide +kernel
def tL_sit : List (Nat × Instr × Nat) := [(903, .aload_n 1, 1), (904, .aload_n 0, 1), (905, .iload_n 3, 1), (906, .iconst 1, 1), (907, .iadd, 1), (908, .iaload, 1), (909, .invokevirtual 119, 3), (912, .aload_n 2, 1), (913, .aload_n 0, 1), (914, .iload_n 3, 1), (915, .iconst 1, 1), (916, .iadd, 1), (917, .iaload, 1), (918, .invokevirtual 122, 3), (921, .if_icmp .eq 130, 3), (924, .iconst 0, 1), (925, .ireturn, 1)]
set_option maxRecDepth 20000 in
theorem htL_sit : ∀ q ∈ tL_sit, decode code q.1 = .ok (q.2.1, q.2.2) := by decide +kernel
def tL_seed : List (Nat × Instr × Nat) := [(926, .aload_n 1, 1), (927, .aload_n 0, 1), (928, .iload_n 3, 1), (929, .iconst 1, 1), (930, .iadd, 1), (931, .iaload, 1), (932, .invokevirtual 123, 3), (935, .aload_n 2, 1), (936, .aload_n 0, 1), (937, .iload_n 3, 1), (938, .iconst 1, 1), (939, .iadd, 1), (940, .iaload, 1), (941, .invokevirtual 126, 3), (944, .if_icmp .eq 107, 3), (947, .iconst 0, 1), (948, .ireturn, 1)]
set_option maxRecDepth 20000 in
theorem htL_seed : ∀ q ∈ tL_seed, decode code q.1 = .ok (q.2.1, q.2.2) := by decide +kernel
def tL_journeys : List (Nat × Instr × Nat) := [(949, .aload_n 1, 1), (950, .aload_n 0, 1), (951, .iload_n 3, 1), (952, .iconst 1, 1), (953, .iadd, 1), (954, .iaload, 1), (955, .aload_n 0, 1), (956, .iload_n 3, 1), (957, .iconst 2, 1), (958, .iadd, 1), (959, .iaload, 1), (960, .invokevirtual 127, 3), (963, .aload_n 2, 1), (964, .aload_n 0, 1), (965, .iload_n 3, 1), (966, .iconst 1, 1), (967, .iadd, 1), (968, .iaload, 1), (969, .aload_n 0, 1), (970, .iload_n 3, 1), (971, .iconst 2, 1), (972, .iadd, 1), (973, .iaload, 1), (974, .invokevirtual 130, 3), (977, .if_icmp .eq 74, 3), (980, .iconst 0, 1), (981, .ireturn, 1)]
set_option maxRecDepth 20000 in
theorem htL_journeys : ∀ q ∈ tL_journeys, decode code q.1 = .ok (q.2.1, q.2.2) := by decide +kernel
def tL_count : List (Nat × Instr × Nat) := [(982, .aload_n 1, 1), (983, .aload_n 0, 1), (984, .iload_n 3, 1), (985, .iconst 1, 1), (986, .iadd, 1), (987, .iaload, 1), (988, .invokevirtual 131, 3), (991, .aload_n 2, 1), (992, .aload_n 0, 1), (993, .iload_n 3, 1), (994, .iconst 1, 1), (995, .iadd, 1), (996, .iaload, 1), (997, .invokevirtual 134, 3), (1000, .if_icmp .eq 51, 3), (1003, .iconst 0, 1), (1004, .ireturn, 1)]
set_option maxRecDepth 20000 in
theorem htL_count : ∀ q ∈ tL_count, decode code q.1 = .ok (q.2.1, q.2.2) := by decide +kernel
def tL_image : List (Nat × Instr × Nat) := [(1005, .aload_n 1, 1), (1006, .aload_n 0, 1), (1007, .iload_n 3, 1), (1008, .iconst 1, 1), (1009, .iadd, 1), (1010, .iaload, 1), (1011, .invokevirtual 135, 3), (1014, .aload_n 2, 1), (1015, .aload_n 0, 1), (1016, .iload_n 3, 1), (1017, .iconst 1, 1), (1018, .iadd, 1), (1019, .iaload, 1), (1020, .invokevirtual 138, 3), (1023, .if_icmp .eq 28, 3), (1026, .iconst 0, 1), (1027, .ireturn, 1)]
set_option maxRecDepth 20000 in
theorem htL_image : ∀ q ∈ tL_image, decode code q.1 = .ok (q.2.1, q.2.2) := by decide +kernel
def tL_back : List (Nat × Instr × Nat) := [(1028, .aload_n 1, 1), (1029, .aload_n 0, 1), (1030, .iload_n 3, 1), (1031, .iconst 1, 1), (1032, .iadd, 1), (1033, .iaload, 1), (1034, .invokevirtual 139, 3), (1037, .aload_n 2, 1), (1038, .aload_n 0, 1), (1039, .iload_n 3, 1), (1040, .iconst 1, 1), (1041, .iadd, 1), (1042, .iaload, 1), (1043, .invokevirtual 142, 3), (1046, .if_icmp .eq 5, 3), (1049, .iconst 0, 1), (1050, .ireturn, 1)]
set_option maxRecDepth 20000 in
theorem htL_back : ∀ q ∈ tL_back, decode code q.1 = .ok (q.2.1, q.2.2) := by decide +kernel
def Sx (Z : Cz) (b L : Nat) (xs : Nat → Int32) : Prop :=
  match Z with
  | (_, _, _, _, s, _, _, _, _, _, A, _) => va_X b L xs s s.heap ∧ b < s.heap.size ∧ ¬ A b
def Cl (Z : Cz) (D : va_G) (cy : Nat → ClassId) : Prop := ∀ tab : List (Nat × Instr × Nat), (∀ q ∈ tab, decode code q.1 = .ok (q.2.1, q.2.2)) → Cx Z D cy RL tab 4 2048 84000 600000 7302250
section
variable {Z : Cz} {D : va_G} {cy : Nat → ClassId} {tab : List (Nat × Instr × Nat)} {kc ks : Nat} {w : va_W} {pc b L : Nat} {xs : Nat → Int32} {lv : List (Nat × Value)} {st : List Value}
theorem k_sld (C : Cx Z D cy RL tab 4 2048 84000 600000 7302250) (S : Sx Z b L xs) (hL : L ≤ 3072) (i : Nat) (hi : tab[i]? = some (pc, .iaload, 1)) {j : Int32} {n : Nat} (hj : j = nI n) (hn : n < L) (h : Wk Z D 4 kc ks w (pc + 1) lv (.int (xs n) :: st)) : Wk Z D 4 kc ks w pc lv (.int j :: .ref b :: st) := by
  subst hj
  obtain ⟨p, l, e, R, s, m, args, below, meth, c, A, Q⟩ := Z
  obtain ⟨hx, hd, hts, hown, hml, hK, hA, hfr, hlo, hmc, hms, hEv⟩ := C
  obtain ⟨s1, s2, s3⟩ := S
  have hd1 := hd _ _ _ (List.mem_of_getElem? hi)
  intro H locs ls hP hD hS hl
  have h1 := h H locs ls hP hD hS hl
  have hc : (nI n).toNatClampNeg = n := nI_clamp (by omega)
  refine va_sld hx rfl s1 s2 s3 hS (nI_in hn (by omega)) hd1 ?_
  rw [hc]
  exact h1
theorem k_slen (C : Cx Z D cy RL tab 4 2048 84000 600000 7302250) (S : Sx Z b L xs) (i : Nat) (hi : tab[i]? = some (pc, .arraylength, 1)) (h : Wk Z D 4 kc ks w (pc + 1) lv (.int (nI L) :: st)) : Wk Z D 4 kc ks w pc lv (.ref b :: st) := by
  obtain ⟨p, l, e, R, s, m, args, below, meth, c, A, Q⟩ := Z
  obtain ⟨hx, hd, hts, hown, hml, hK, hA, hfr, hlo, hmc, hms, hEv⟩ := C
  obtain ⟨s1, s2, s3⟩ := S
  have hd1 := hd _ _ _ (List.mem_of_getElem? hi)
  intro H locs ls hP hD hS hl
  exact va_slen hx rfl s1 s2 s3 hS hd1 (h H locs ls hP hD hS hl)
end
section
variable {Z : Cz} {D : va_G} {cy : Nat → ClassId} {kc ks b L : Nat} {xs : Nat → Int32} {AD ra : Nat → Nat → Nat} {s : XS} {M : Sg} {R : XS → Sg → Prop} {i : Nat}
theorem la_feed (H : St_feed R) (hC : Cl Z D cy) (S : Sx Z b L xs) (hL : L ≤ 3072) (hi : i + 6 ≤ L) (hr : R s M) (hk : kc + 5 ≤ 600000 ∧ ks + 1604 ≤ 7302250) (hk2 : ∀ ra s M, R s M → Wk Z D 4 (kc + 5) (ks + 1604) (wLw cy AD ra s M) 1051 [(0, .ref b), (1, .ref (AD 0 0)), (2, .ref (AD 10 0)), (3, .int (nI i))] []) : Wk Z D 4 kc ks (wLw cy AD ra s M) 172 [(0, .ref b), (1, .ref (AD 0 0)), (2, .ref (AD 10 0)), (3, .int (nI i))] [] := by
  have C := hC tL_feed htL_feed
  obtain ⟨r, Q1, M1, h1, h2, h3⟩ := H s M (xs (i + 1)) (xs (i + 2)) (xs (i + 3)) (xs (i + 4)) (xs (i + 5)) hr
  refine k_aload_1 C 0 rfl 1 rfl ?_
  refine k_aload_0 C 1 rfl 0 rfl ?_
  refine k_iload_3 C 2 rfl 3 rfl ?_
  refine k_iconst C 3 rfl ci_1 ?_
  refine k_iadd C 4 rfl ?_
  refine k_sld C S hL 5 rfl (nI_add i 1) (by omega) ?_
  refine k_aload_0 C 6 rfl 0 rfl ?_
  refine k_iload_3 C 7 rfl 3 rfl ?_
  refine k_iconst C 8 rfl ci_2 ?_
  refine k_iadd C 9 rfl ?_
  refine k_sld C S hL 10 rfl (nI_add i 2) (by omega) ?_
  refine k_aload_0 C 11 rfl 0 rfl ?_
  refine k_iload_3 C 12 rfl 3 rfl ?_
  refine k_iconst C 13 rfl ci_3 ?_
  refine k_iadd C 14 rfl ?_
  refine k_sld C S hL 15 rfl (nI_add i 3) (by omega) ?_
  refine k_aload_0 C 16 rfl 0 rfl ?_
  refine k_iload_3 C 17 rfl 3 rfl ?_
  refine k_iconst C 18 rfl ci_4 ?_
  refine k_iadd C 19 rfl ?_
  refine k_sld C S hL 20 rfl (nI_add i 4) (by omega) ?_
  refine k_aload_0 C 21 rfl 0 rfl ?_
  refine k_iload_3 C 22 rfl 3 rfl ?_
  refine k_iconst C 23 rfl ci_5 ?_
  refine k_iadd C 24 rfl ?_
  refine k_sld C S hL 25 rfl (nI_add i 5) (by omega) ?_
  refine lx_feed C 26 rfl h1 (Nat.le_of_ble_eq_true rfl) ⟨by omega, by omega⟩ ?_
  refine k_aload_2 C 27 rfl 2 rfl ?_
  refine k_aload_0 C 28 rfl 0 rfl ?_
  refine k_iload_3 C 29 rfl 3 rfl ?_
  refine k_iconst C 30 rfl ci_1 ?_
  refine k_iadd C 31 rfl ?_
  refine k_sld C S hL 32 rfl (nI_add i 1) (by omega) ?_
  refine k_aload_0 C 33 rfl 0 rfl ?_
  refine k_iload_3 C 34 rfl 3 rfl ?_
  refine k_iconst C 35 rfl ci_2 ?_
  refine k_iadd C 36 rfl ?_
  refine k_sld C S hL 37 rfl (nI_add i 2) (by omega) ?_
  refine k_aload_0 C 38 rfl 0 rfl ?_
  refine k_iload_3 C 39 rfl 3 rfl ?_
  refine k_iconst C 40 rfl ci_3 ?_
  refine k_iadd C 41 rfl ?_
  refine k_sld C S hL 42 rfl (nI_add i 3) (by omega) ?_
  refine k_aload_0 C 43 rfl 0 rfl ?_
  refine k_iload_3 C 44 rfl 3 rfl ?_
  refine k_iconst C 45 rfl ci_4 ?_
  refine k_iadd C 46 rfl ?_
  refine k_sld C S hL 47 rfl (nI_add i 4) (by omega) ?_
  refine k_aload_0 C 48 rfl 0 rfl ?_
  refine k_iload_3 C 49 rfl 3 rfl ?_
  refine k_iconst C 50 rfl ci_5 ?_
  refine k_iadd C 51 rfl ?_
  refine k_sld C S hL 52 rfl (nI_add i 5) (by omega) ?_
  refine lm_feed C 53 rfl h2 (Nat.le_of_ble_eq_true rfl) ⟨by omega, by omega⟩ ?_
  refine k_icmp_eq C 54 rfl 1051 (by decide) (fun _ => ?_) (fun hc => absurd rfl hc)
  exact k_widen (by omega) (by omega) (hk2 _ _ _ h3)
theorem la_end (H : St_end R) (hC : Cl Z D cy) (S : Sx Z b L xs) (hL : L ≤ 3072) (hi : i + 6 ≤ L) (hr : R s M) (hk : kc + 5 ≤ 600000 ∧ ks + 1604 ≤ 7302250) (hk2 : ∀ ra s M, R s M → Wk Z D 4 (kc + 5) (ks + 1604) (wLw cy AD ra s M) 1051 [(0, .ref b), (1, .ref (AD 0 0)), (2, .ref (AD 10 0)), (3, .int (nI i))] []) : Wk Z D 4 kc ks (wLw cy AD ra s M) 235 [(0, .ref b), (1, .ref (AD 0 0)), (2, .ref (AD 10 0)), (3, .int (nI i))] [] := by
  have C := hC tL_end htL_end
  obtain ⟨r, Q1, M1, h1, h2, h3⟩ := H s M (xs (i + 1)) hr
  refine k_aload_1 C 0 rfl 1 rfl ?_
  refine k_aload_0 C 1 rfl 0 rfl ?_
  refine k_iload_3 C 2 rfl 3 rfl ?_
  refine k_iconst C 3 rfl ci_1 ?_
  refine k_iadd C 4 rfl ?_
  refine k_sld C S hL 5 rfl (nI_add i 1) (by omega) ?_
  refine lx_end C 6 rfl h1 (Nat.le_of_ble_eq_true rfl) ⟨by omega, by omega⟩ ?_
  refine k_aload_2 C 7 rfl 2 rfl ?_
  refine k_aload_0 C 8 rfl 0 rfl ?_
  refine k_iload_3 C 9 rfl 3 rfl ?_
  refine k_iconst C 10 rfl ci_1 ?_
  refine k_iadd C 11 rfl ?_
  refine k_sld C S hL 12 rfl (nI_add i 1) (by omega) ?_
  refine lm_end C 13 rfl h2 (Nat.le_of_ble_eq_true rfl) ⟨by omega, by omega⟩ ?_
  refine k_icmp_eq C 14 rfl 1051 (by decide) (fun _ => ?_) (fun hc => absurd rfl hc)
  exact k_widen (by omega) (by omega) (hk2 _ _ _ h3)
theorem la_line (H : St_line R) (hC : Cl Z D cy) (S : Sx Z b L xs) (hL : L ≤ 3072) (hi : i + 6 ≤ L) (hr : R s M) (hk : kc + 5 ≤ 600000 ∧ ks + 1604 ≤ 7302250) (hk2 : ∀ ra s M, R s M → Wk Z D 4 (kc + 5) (ks + 1604) (wLw cy AD ra s M) 1051 [(0, .ref b), (1, .ref (AD 0 0)), (2, .ref (AD 10 0)), (3, .int (nI i))] []) : Wk Z D 4 kc ks (wLw cy AD ra s M) 258 [(0, .ref b), (1, .ref (AD 0 0)), (2, .ref (AD 10 0)), (3, .int (nI i))] [] := by
  have C := hC tL_line htL_line
  obtain ⟨r, Q1, T1, O1, E1, Td1, Od1, L1, H1, M1, h1, h2, h3⟩ := H s M  hr
  refine k_aload_1 C 0 rfl 1 rfl ?_
  refine lx_line C 1 rfl h1 (Nat.le_of_ble_eq_true rfl) ⟨by omega, by omega⟩ ?_
  refine k_aload_2 C 2 rfl 2 rfl ?_
  refine lm_line C 3 rfl h2 (Nat.le_of_ble_eq_true rfl) ⟨by omega, by omega⟩ ?_
  refine k_icmp_eq C 4 rfl 1051 (by decide) (fun _ => ?_) (fun hc => absurd rfl hc)
  exact k_widen (by omega) (by omega) (hk2 _ _ _ h3)
theorem la_rule (H : St_rule R) (hC : Cl Z D cy) (hE : Ew (zS Z)) (S : Sx Z b L xs) (hL : L ≤ 3072) (hi : i + 6 ≤ L) (hr : R s M) (hk : kc + 5 ≤ 600000 ∧ ks + 1604 ≤ 7302250) (hk2 : ∀ ra s M, R s M → Wk Z D 4 (kc + 5) (ks + 1604) (wLw cy AD ra s M) 1051 [(0, .ref b), (1, .ref (AD 0 0)), (2, .ref (AD 10 0)), (3, .int (nI i))] []) : Wk Z D 4 kc ks (wLw cy AD ra s M) 271 [(0, .ref b), (1, .ref (AD 0 0)), (2, .ref (AD 10 0)), (3, .int (nI i))] [] := by
  have C := hC tL_rule htL_rule
  rcases H s M  hr with h | h | h
  · obtain ⟨M1, h1, h2, h3⟩ := h
    refine k_aload_1 C 0 rfl 1 rfl ?_
    refine lx_ruleA C 1 rfl h1 (Nat.le_of_ble_eq_true rfl) ⟨by omega, by omega⟩ ?_
    refine k_aload_2 C 2 rfl 2 rfl ?_
    refine lm_rule C 3 rfl h2 (Nat.le_of_ble_eq_true rfl) ⟨by omega, by omega⟩ ?_
    refine k_icmp_eq C 4 rfl 1051 (by decide) (fun _ => ?_) (fun hc => absurd rfl hc)
    exact k_widen (by omega) (by omega) (hk2 _ _ _ h3)
  · obtain ⟨K1, Q1, M1, h0, h1, h2, h3⟩ := h
    refine k_aload_1 C 0 rfl 1 rfl ?_
    refine lx_ruleB C 1 rfl h0 h1 (Nat.le_of_ble_eq_true rfl) ⟨by omega, by omega⟩ ?_
    refine k_aload_2 C 2 rfl 2 rfl ?_
    refine lm_rule C 3 rfl h2 (Nat.le_of_ble_eq_true rfl) ⟨by omega, by omega⟩ ?_
    refine k_icmp_eq C 4 rfl 1051 (by decide) (fun _ => ?_) (fun hc => absurd rfl hc)
    exact k_widen (by omega) (by omega) (hk2 _ _ _ h3)
  · obtain ⟨K1, Q1, M1, n, m, g1, g2, g3, g4, g5, g6, h1, h2, h3⟩ := h
    refine k_aload_1 C 0 rfl 1 rfl ?_
    refine lx_ruleC C 1 hE rfl g1 g2 g3 g4 g5 g6 h1 (Nat.le_of_ble_eq_true rfl) ⟨by omega, by omega⟩ (fun ad => ?_)
    refine k_aload_2 C 2 rfl 2 rfl ?_
    refine lm_rule C 3 rfl h2 (Nat.le_of_ble_eq_true rfl) ⟨by omega, by omega⟩ ?_
    refine k_icmp_eq C 4 rfl 1051 (by decide) (fun _ => ?_) (fun hc => absurd rfl hc)
    exact k_widen (by omega) (by omega) (hk2 _ _ _ h3)
theorem la_coach (H : St_coach R) (hC : Cl Z D cy) (S : Sx Z b L xs) (hL : L ≤ 3072) (hi : i + 6 ≤ L) (hr : R s M) (hk : kc + 5 ≤ 600000 ∧ ks + 1604 ≤ 7302250) (hk2 : ∀ ra s M, R s M → Wk Z D 4 (kc + 5) (ks + 1604) (wLw cy AD ra s M) 1051 [(0, .ref b), (1, .ref (AD 0 0)), (2, .ref (AD 10 0)), (3, .int (nI i))] []) : Wk Z D 4 kc ks (wLw cy AD ra s M) 284 [(0, .ref b), (1, .ref (AD 0 0)), (2, .ref (AD 10 0)), (3, .int (nI i))] [] := by
  have C := hC tL_coach htL_coach
  obtain ⟨r, h1, h2, h3⟩ := H s M (xs (i + 1)) (xs (i + 2)) hr
  refine k_aload_1 C 0 rfl 1 rfl ?_
  refine k_aload_0 C 1 rfl 0 rfl ?_
  refine k_iload_3 C 2 rfl 3 rfl ?_
  refine k_iconst C 3 rfl ci_1 ?_
  refine k_iadd C 4 rfl ?_
  refine k_sld C S hL 5 rfl (nI_add i 1) (by omega) ?_
  refine k_aload_0 C 6 rfl 0 rfl ?_
  refine k_iload_3 C 7 rfl 3 rfl ?_
  refine k_iconst C 8 rfl ci_2 ?_
  refine k_iadd C 9 rfl ?_
  refine k_sld C S hL 10 rfl (nI_add i 2) (by omega) ?_
  refine lx_coach C 11 rfl h1 (Nat.le_of_ble_eq_true rfl) ⟨by omega, by omega⟩ ?_
  refine k_aload_2 C 12 rfl 2 rfl ?_
  refine k_aload_0 C 13 rfl 0 rfl ?_
  refine k_iload_3 C 14 rfl 3 rfl ?_
  refine k_iconst C 15 rfl ci_1 ?_
  refine k_iadd C 16 rfl ?_
  refine k_sld C S hL 17 rfl (nI_add i 1) (by omega) ?_
  refine k_aload_0 C 18 rfl 0 rfl ?_
  refine k_iload_3 C 19 rfl 3 rfl ?_
  refine k_iconst C 20 rfl ci_2 ?_
  refine k_iadd C 21 rfl ?_
  refine k_sld C S hL 22 rfl (nI_add i 2) (by omega) ?_
  refine lm_coach C 23 rfl h2 (Nat.le_of_ble_eq_true rfl) ⟨by omega, by omega⟩ ?_
  refine k_icmp_eq C 24 rfl 1051 (by decide) (fun _ => ?_) (fun hc => absurd rfl hc)
  exact k_widen (by omega) (by omega) (hk2 _ _ _ h3)
theorem la_way (H : St_way R) (hC : Cl Z D cy) (S : Sx Z b L xs) (hL : L ≤ 3072) (hi : i + 6 ≤ L) (hr : R s M) (hk : kc + 5 ≤ 600000 ∧ ks + 1604 ≤ 7302250) (hk2 : ∀ ra s M, R s M → Wk Z D 4 (kc + 5) (ks + 1604) (wLw cy AD ra s M) 1051 [(0, .ref b), (1, .ref (AD 0 0)), (2, .ref (AD 10 0)), (3, .int (nI i))] []) : Wk Z D 4 kc ks (wLw cy AD ra s M) 317 [(0, .ref b), (1, .ref (AD 0 0)), (2, .ref (AD 10 0)), (3, .int (nI i))] [] := by
  have C := hC tL_way htL_way
  obtain ⟨r, h1, h2, h3⟩ := H s M (xs (i + 1)) (xs (i + 2)) hr
  refine k_aload_1 C 0 rfl 1 rfl ?_
  refine k_aload_0 C 1 rfl 0 rfl ?_
  refine k_iload_3 C 2 rfl 3 rfl ?_
  refine k_iconst C 3 rfl ci_1 ?_
  refine k_iadd C 4 rfl ?_
  refine k_sld C S hL 5 rfl (nI_add i 1) (by omega) ?_
  refine k_aload_0 C 6 rfl 0 rfl ?_
  refine k_iload_3 C 7 rfl 3 rfl ?_
  refine k_iconst C 8 rfl ci_2 ?_
  refine k_iadd C 9 rfl ?_
  refine k_sld C S hL 10 rfl (nI_add i 2) (by omega) ?_
  refine lx_way C 11 rfl h1 (Nat.le_of_ble_eq_true rfl) ⟨by omega, by omega⟩ ?_
  refine k_aload_2 C 12 rfl 2 rfl ?_
  refine k_aload_0 C 13 rfl 0 rfl ?_
  refine k_iload_3 C 14 rfl 3 rfl ?_
  refine k_iconst C 15 rfl ci_1 ?_
  refine k_iadd C 16 rfl ?_
  refine k_sld C S hL 17 rfl (nI_add i 1) (by omega) ?_
  refine k_aload_0 C 18 rfl 0 rfl ?_
  refine k_iload_3 C 19 rfl 3 rfl ?_
  refine k_iconst C 20 rfl ci_2 ?_
  refine k_iadd C 21 rfl ?_
  refine k_sld C S hL 22 rfl (nI_add i 2) (by omega) ?_
  refine lm_way C 23 rfl h2 (Nat.le_of_ble_eq_true rfl) ⟨by omega, by omega⟩ ?_
  refine k_icmp_eq C 24 rfl 1051 (by decide) (fun _ => ?_) (fun hc => absurd rfl hc)
  exact k_widen (by omega) (by omega) (hk2 _ _ _ h3)
theorem la_stop (H : St_stop R) (hC : Cl Z D cy) (S : Sx Z b L xs) (hL : L ≤ 3072) (hi : i + 6 ≤ L) (hr : R s M) (hk : kc + 5 ≤ 600000 ∧ ks + 1604 ≤ 7302250) (hk2 : ∀ ra s M, R s M → Wk Z D 4 (kc + 5) (ks + 1604) (wLw cy AD ra s M) 1051 [(0, .ref b), (1, .ref (AD 0 0)), (2, .ref (AD 10 0)), (3, .int (nI i))] []) : Wk Z D 4 kc ks (wLw cy AD ra s M) 350 [(0, .ref b), (1, .ref (AD 0 0)), (2, .ref (AD 10 0)), (3, .int (nI i))] [] := by
  have C := hC tL_stop htL_stop
  obtain ⟨r, h1, h2, h3⟩ := H s M (xs (i + 1)) (xs (i + 2)) hr
  refine k_aload_1 C 0 rfl 1 rfl ?_
  refine k_aload_0 C 1 rfl 0 rfl ?_
  refine k_iload_3 C 2 rfl 3 rfl ?_
  refine k_iconst C 3 rfl ci_1 ?_
  refine k_iadd C 4 rfl ?_
  refine k_sld C S hL 5 rfl (nI_add i 1) (by omega) ?_
  refine k_aload_0 C 6 rfl 0 rfl ?_
  refine k_iload_3 C 7 rfl 3 rfl ?_
  refine k_iconst C 8 rfl ci_2 ?_
  refine k_iadd C 9 rfl ?_
  refine k_sld C S hL 10 rfl (nI_add i 2) (by omega) ?_
  refine lx_stop C 11 rfl h1 (Nat.le_of_ble_eq_true rfl) ⟨by omega, by omega⟩ ?_
  refine k_aload_2 C 12 rfl 2 rfl ?_
  refine k_aload_0 C 13 rfl 0 rfl ?_
  refine k_iload_3 C 14 rfl 3 rfl ?_
  refine k_iconst C 15 rfl ci_1 ?_
  refine k_iadd C 16 rfl ?_
  refine k_sld C S hL 17 rfl (nI_add i 1) (by omega) ?_
  refine k_aload_0 C 18 rfl 0 rfl ?_
  refine k_iload_3 C 19 rfl 3 rfl ?_
  refine k_iconst C 20 rfl ci_2 ?_
  refine k_iadd C 21 rfl ?_
  refine k_sld C S hL 22 rfl (nI_add i 2) (by omega) ?_
  refine lm_stop C 23 rfl h2 (Nat.le_of_ble_eq_true rfl) ⟨by omega, by omega⟩ ?_
  refine k_icmp_eq C 24 rfl 1051 (by decide) (fun _ => ?_) (fun hc => absurd rfl hc)
  exact k_widen (by omega) (by omega) (hk2 _ _ _ h3)
theorem la_rider (H : St_rider R) (hC : Cl Z D cy) (S : Sx Z b L xs) (hL : L ≤ 3072) (hi : i + 6 ≤ L) (hr : R s M) (hk : kc + 5 ≤ 600000 ∧ ks + 1604 ≤ 7302250) (hk2 : ∀ ra s M, R s M → Wk Z D 4 (kc + 5) (ks + 1604) (wLw cy AD ra s M) 1051 [(0, .ref b), (1, .ref (AD 0 0)), (2, .ref (AD 10 0)), (3, .int (nI i))] []) : Wk Z D 4 kc ks (wLw cy AD ra s M) 383 [(0, .ref b), (1, .ref (AD 0 0)), (2, .ref (AD 10 0)), (3, .int (nI i))] [] := by
  have C := hC tL_rider htL_rider
  obtain ⟨r, h1, h2, h3⟩ := H s M (xs (i + 1)) (xs (i + 2)) hr
  refine k_aload_1 C 0 rfl 1 rfl ?_
  refine k_aload_0 C 1 rfl 0 rfl ?_
  refine k_iload_3 C 2 rfl 3 rfl ?_
  refine k_iconst C 3 rfl ci_1 ?_
  refine k_iadd C 4 rfl ?_
  refine k_sld C S hL 5 rfl (nI_add i 1) (by omega) ?_
  refine k_aload_0 C 6 rfl 0 rfl ?_
  refine k_iload_3 C 7 rfl 3 rfl ?_
  refine k_iconst C 8 rfl ci_2 ?_
  refine k_iadd C 9 rfl ?_
  refine k_sld C S hL 10 rfl (nI_add i 2) (by omega) ?_
  refine lx_rider C 11 rfl h1 (Nat.le_of_ble_eq_true rfl) ⟨by omega, by omega⟩ ?_
  refine k_aload_2 C 12 rfl 2 rfl ?_
  refine k_aload_0 C 13 rfl 0 rfl ?_
  refine k_iload_3 C 14 rfl 3 rfl ?_
  refine k_iconst C 15 rfl ci_1 ?_
  refine k_iadd C 16 rfl ?_
  refine k_sld C S hL 17 rfl (nI_add i 1) (by omega) ?_
  refine k_aload_0 C 18 rfl 0 rfl ?_
  refine k_iload_3 C 19 rfl 3 rfl ?_
  refine k_iconst C 20 rfl ci_2 ?_
  refine k_iadd C 21 rfl ?_
  refine k_sld C S hL 22 rfl (nI_add i 2) (by omega) ?_
  refine lm_rider C 23 rfl h2 (Nat.le_of_ble_eq_true rfl) ⟨by omega, by omega⟩ ?_
  refine k_icmp_eq C 24 rfl 1051 (by decide) (fun _ => ?_) (fun hc => absurd rfl hc)
  exact k_widen (by omega) (by omega) (hk2 _ _ _ h3)
theorem la_inside (H : St_inside R) (hC : Cl Z D cy) (S : Sx Z b L xs) (hL : L ≤ 3072) (hi : i + 6 ≤ L) (hr : R s M) (hk : kc + 5 ≤ 600000 ∧ ks + 1604 ≤ 7302250) (hk2 : ∀ ra s M, R s M → Wk Z D 4 (kc + 5) (ks + 1604) (wLw cy AD ra s M) 1051 [(0, .ref b), (1, .ref (AD 0 0)), (2, .ref (AD 10 0)), (3, .int (nI i))] []) : Wk Z D 4 kc ks (wLw cy AD ra s M) 416 [(0, .ref b), (1, .ref (AD 0 0)), (2, .ref (AD 10 0)), (3, .int (nI i))] [] := by
  have C := hC tL_inside htL_inside
  obtain ⟨j, r, O1, H1, Om1, M1, hj, h1, h2, h3⟩ := H s M (xs (i + 1)) (xs (i + 2)) hr
  refine k_aload_1 C 0 rfl 1 rfl ?_
  refine k_aload_0 C 1 rfl 0 rfl ?_
  refine k_iload_3 C 2 rfl 3 rfl ?_
  refine k_iconst C 3 rfl ci_1 ?_
  refine k_iadd C 4 rfl ?_
  refine k_sld C S hL 5 rfl (nI_add i 1) (by omega) ?_
  refine k_aload_0 C 6 rfl 0 rfl ?_
  refine k_iload_3 C 7 rfl 3 rfl ?_
  refine k_iconst C 8 rfl ci_2 ?_
  refine k_iadd C 9 rfl ?_
  refine k_sld C S hL 10 rfl (nI_add i 2) (by omega) ?_
  refine lx_inside C 11 hj rfl h1 (Nat.le_of_ble_eq_true rfl) ⟨by omega, by omega⟩ ?_
  refine k_aload_2 C 12 rfl 2 rfl ?_
  refine k_aload_0 C 13 rfl 0 rfl ?_
  refine k_iload_3 C 14 rfl 3 rfl ?_
  refine k_iconst C 15 rfl ci_1 ?_
  refine k_iadd C 16 rfl ?_
  refine k_sld C S hL 17 rfl (nI_add i 1) (by omega) ?_
  refine k_aload_0 C 18 rfl 0 rfl ?_
  refine k_iload_3 C 19 rfl 3 rfl ?_
  refine k_iconst C 20 rfl ci_2 ?_
  refine k_iadd C 21 rfl ?_
  refine k_sld C S hL 22 rfl (nI_add i 2) (by omega) ?_
  refine lm_inside C 23 rfl h2 (Nat.le_of_ble_eq_true rfl) ⟨by omega, by omega⟩ ?_
  refine k_icmp_eq C 24 rfl 1051 (by decide) (fun _ => ?_) (fun hc => absurd rfl hc)
  exact k_widen (by omega) (by omega) (hk2 _ _ _ h3)
theorem la_outside (H : St_outside R) (hC : Cl Z D cy) (S : Sx Z b L xs) (hL : L ≤ 3072) (hi : i + 6 ≤ L) (hr : R s M) (hk : kc + 5 ≤ 600000 ∧ ks + 1604 ≤ 7302250) (hk2 : ∀ ra s M, R s M → Wk Z D 4 (kc + 5) (ks + 1604) (wLw cy AD ra s M) 1051 [(0, .ref b), (1, .ref (AD 0 0)), (2, .ref (AD 10 0)), (3, .int (nI i))] []) : Wk Z D 4 kc ks (wLw cy AD ra s M) 449 [(0, .ref b), (1, .ref (AD 0 0)), (2, .ref (AD 10 0)), (3, .int (nI i))] [] := by
  have C := hC tL_outside htL_outside
  obtain ⟨j, r, O1, H1, Om1, M1, hj, h1, h2, h3⟩ := H s M (xs (i + 1)) (xs (i + 2)) hr
  refine k_aload_1 C 0 rfl 1 rfl ?_
  refine k_aload_0 C 1 rfl 0 rfl ?_
  refine k_iload_3 C 2 rfl 3 rfl ?_
  refine k_iconst C 3 rfl ci_1 ?_
  refine k_iadd C 4 rfl ?_
  refine k_sld C S hL 5 rfl (nI_add i 1) (by omega) ?_
  refine k_aload_0 C 6 rfl 0 rfl ?_
  refine k_iload_3 C 7 rfl 3 rfl ?_
  refine k_iconst C 8 rfl ci_2 ?_
  refine k_iadd C 9 rfl ?_
  refine k_sld C S hL 10 rfl (nI_add i 2) (by omega) ?_
  refine lx_outside C 11 hj rfl h1 (Nat.le_of_ble_eq_true rfl) ⟨by omega, by omega⟩ ?_
  refine k_aload_2 C 12 rfl 2 rfl ?_
  refine k_aload_0 C 13 rfl 0 rfl ?_
  refine k_iload_3 C 14 rfl 3 rfl ?_
  refine k_iconst C 15 rfl ci_1 ?_
  refine k_iadd C 16 rfl ?_
  refine k_sld C S hL 17 rfl (nI_add i 1) (by omega) ?_
  refine k_aload_0 C 18 rfl 0 rfl ?_
  refine k_iload_3 C 19 rfl 3 rfl ?_
  refine k_iconst C 20 rfl ci_2 ?_
  refine k_iadd C 21 rfl ?_
  refine k_sld C S hL 22 rfl (nI_add i 2) (by omega) ?_
  refine lm_outside C 23 rfl h2 (Nat.le_of_ble_eq_true rfl) ⟨by omega, by omega⟩ ?_
  refine k_icmp_eq C 24 rfl 1051 (by decide) (fun _ => ?_) (fun hc => absurd rfl hc)
  exact k_widen (by omega) (by omega) (hk2 _ _ _ h3)
theorem la_pass (H : St_pass R) (hC : Cl Z D cy) (S : Sx Z b L xs) (hL : L ≤ 3072) (hi : i + 6 ≤ L) (hr : R s M) (hk : kc + 5 ≤ 600000 ∧ ks + 1604 ≤ 7302250) (hk2 : ∀ ra s M, R s M → Wk Z D 4 (kc + 5) (ks + 1604) (wLw cy AD ra s M) 1051 [(0, .ref b), (1, .ref (AD 0 0)), (2, .ref (AD 10 0)), (3, .int (nI i))] []) : Wk Z D 4 kc ks (wLw cy AD ra s M) 482 [(0, .ref b), (1, .ref (AD 0 0)), (2, .ref (AD 10 0)), (3, .int (nI i))] [] := by
  have C := hC tL_pass htL_pass
  obtain ⟨j, r, O1, H1, Om1, M1, hj, h1, h2, h3⟩ := H s M (xs (i + 1)) hr
  refine k_aload_1 C 0 rfl 1 rfl ?_
  refine k_aload_0 C 1 rfl 0 rfl ?_
  refine k_iload_3 C 2 rfl 3 rfl ?_
  refine k_iconst C 3 rfl ci_1 ?_
  refine k_iadd C 4 rfl ?_
  refine k_sld C S hL 5 rfl (nI_add i 1) (by omega) ?_
  refine lx_pass C 6 hj rfl h1 (Nat.le_of_ble_eq_true rfl) ⟨by omega, by omega⟩ ?_
  refine k_aload_2 C 7 rfl 2 rfl ?_
  refine k_aload_0 C 8 rfl 0 rfl ?_
  refine k_iload_3 C 9 rfl 3 rfl ?_
  refine k_iconst C 10 rfl ci_1 ?_
  refine k_iadd C 11 rfl ?_
  refine k_sld C S hL 12 rfl (nI_add i 1) (by omega) ?_
  refine lm_pass C 13 rfl h2 (Nat.le_of_ble_eq_true rfl) ⟨by omega, by omega⟩ ?_
  refine k_icmp_eq C 14 rfl 1051 (by decide) (fun _ => ?_) (fun hc => absurd rfl hc)
  exact k_widen (by omega) (by omega) (hk2 _ _ _ h3)
theorem la_shut (H : St_shut R) (hC : Cl Z D cy) (S : Sx Z b L xs) (hL : L ≤ 3072) (hi : i + 6 ≤ L) (hr : R s M) (hk : kc + 5 ≤ 600000 ∧ ks + 1604 ≤ 7302250) (hk2 : ∀ ra s M, R s M → Wk Z D 4 (kc + 5) (ks + 1604) (wLw cy AD ra s M) 1051 [(0, .ref b), (1, .ref (AD 0 0)), (2, .ref (AD 10 0)), (3, .int (nI i))] []) : Wk Z D 4 kc ks (wLw cy AD ra s M) 505 [(0, .ref b), (1, .ref (AD 0 0)), (2, .ref (AD 10 0)), (3, .int (nI i))] [] := by
  have C := hC tL_shut htL_shut
  by_cases hb : xs (i + 2) = 0
  · obtain ⟨j, r, O1, H1, Om1, M1, hj, h1, h2, h3⟩ := H s M (xs (i + 1)) false hr
    refine k_aload_1 C 0 rfl 1 rfl ?_
    refine k_aload_0 C 1 rfl 0 rfl ?_
    refine k_iload_3 C 2 rfl 3 rfl ?_
    refine k_iconst C 3 rfl ci_1 ?_
    refine k_iadd C 4 rfl ?_
    refine k_sld C S hL 5 rfl (nI_add i 1) (by omega) ?_
    refine k_aload_0 C 6 rfl 0 rfl ?_
    refine k_iload_3 C 7 rfl 3 rfl ?_
    refine k_iconst C 8 rfl ci_2 ?_
    refine k_iadd C 9 rfl ?_
    refine k_sld C S hL 10 rfl (nI_add i 2) (by omega) ?_
    refine k_if_eq C 11 rfl 523 (by decide) (fun _ => ?_) (fun hz => absurd hb hz)
    refine k_iconst C 14 rfl ci_0 ?_
    refine lx_shut C 15 hj rfl h1 (Nat.le_of_ble_eq_true rfl) ⟨by omega, by omega⟩ ?_
    refine k_aload_2 C 16 rfl 2 rfl ?_
    refine k_aload_0 C 17 rfl 0 rfl ?_
    refine k_iload_3 C 18 rfl 3 rfl ?_
    refine k_iconst C 19 rfl ci_1 ?_
    refine k_iadd C 20 rfl ?_
    refine k_sld C S hL 21 rfl (nI_add i 1) (by omega) ?_
    refine k_aload_0 C 22 rfl 0 rfl ?_
    refine k_iload_3 C 23 rfl 3 rfl ?_
    refine k_iconst C 24 rfl ci_2 ?_
    refine k_iadd C 25 rfl ?_
    refine k_sld C S hL 26 rfl (nI_add i 2) (by omega) ?_
    refine k_if_eq C 27 rfl 545 (by decide) (fun _ => ?_) (fun hz => absurd hb hz)
    refine k_iconst C 30 rfl ci_0 ?_
    refine lm_shut C 31 rfl h2 (Nat.le_of_ble_eq_true rfl) ⟨by omega, by omega⟩ ?_
    refine k_icmp_eq C 32 rfl 1051 (by decide) (fun _ => ?_) (fun hc => absurd rfl hc)
    exact k_widen (by omega) (by omega) (hk2 _ _ _ h3)
  · obtain ⟨j, r, O1, H1, Om1, M1, hj, h1, h2, h3⟩ := H s M (xs (i + 1)) true hr
    refine k_aload_1 C 0 rfl 1 rfl ?_
    refine k_aload_0 C 1 rfl 0 rfl ?_
    refine k_iload_3 C 2 rfl 3 rfl ?_
    refine k_iconst C 3 rfl ci_1 ?_
    refine k_iadd C 4 rfl ?_
    refine k_sld C S hL 5 rfl (nI_add i 1) (by omega) ?_
    refine k_aload_0 C 6 rfl 0 rfl ?_
    refine k_iload_3 C 7 rfl 3 rfl ?_
    refine k_iconst C 8 rfl ci_2 ?_
    refine k_iadd C 9 rfl ?_
    refine k_sld C S hL 10 rfl (nI_add i 2) (by omega) ?_
    refine k_if_eq C 11 rfl 523 (by decide) (fun hz => absurd hz hb) (fun _ => ?_)
    refine k_iconst C 12 rfl ci_1 ?_
    refine k_goto C 13 rfl 524 (by decide) ?_
    refine lx_shut C 15 hj rfl h1 (Nat.le_of_ble_eq_true rfl) ⟨by omega, by omega⟩ ?_
    refine k_aload_2 C 16 rfl 2 rfl ?_
    refine k_aload_0 C 17 rfl 0 rfl ?_
    refine k_iload_3 C 18 rfl 3 rfl ?_
    refine k_iconst C 19 rfl ci_1 ?_
    refine k_iadd C 20 rfl ?_
    refine k_sld C S hL 21 rfl (nI_add i 1) (by omega) ?_
    refine k_aload_0 C 22 rfl 0 rfl ?_
    refine k_iload_3 C 23 rfl 3 rfl ?_
    refine k_iconst C 24 rfl ci_2 ?_
    refine k_iadd C 25 rfl ?_
    refine k_sld C S hL 26 rfl (nI_add i 2) (by omega) ?_
    refine k_if_eq C 27 rfl 545 (by decide) (fun hz => absurd hz hb) (fun _ => ?_)
    refine k_iconst C 28 rfl ci_1 ?_
    refine k_goto C 29 rfl 546 (by decide) ?_
    refine lm_shut C 31 rfl h2 (Nat.le_of_ble_eq_true rfl) ⟨by omega, by omega⟩ ?_
    refine k_icmp_eq C 32 rfl 1051 (by decide) (fun _ => ?_) (fun hc => absurd rfl hc)
    exact k_widen (by omega) (by omega) (hk2 _ _ _ h3)
theorem la_undo (H : St_undo R) (hC : Cl Z D cy) (S : Sx Z b L xs) (hL : L ≤ 3072) (hi : i + 6 ≤ L) (hr : R s M) (hk : kc + 5 ≤ 600000 ∧ ks + 1604 ≤ 7302250) (hk2 : ∀ ra s M, R s M → Wk Z D 4 (kc + 5) (ks + 1604) (wLw cy AD ra s M) 1051 [(0, .ref b), (1, .ref (AD 0 0)), (2, .ref (AD 10 0)), (3, .int (nI i))] []) : Wk Z D 4 kc ks (wLw cy AD ra s M) 554 [(0, .ref b), (1, .ref (AD 0 0)), (2, .ref (AD 10 0)), (3, .int (nI i))] [] := by
  have C := hC tL_undo htL_undo
  obtain ⟨j, r, O1, H1, M1, hj, h1, h2, h3⟩ := H s M  hr
  refine k_aload_1 C 0 rfl 1 rfl ?_
  refine lx_undo C 1 hj rfl h1 (Nat.le_of_ble_eq_true rfl) ⟨by omega, by omega⟩ ?_
  refine k_aload_2 C 2 rfl 2 rfl ?_
  refine lm_undo C 3 rfl h2 (Nat.le_of_ble_eq_true rfl) ⟨by omega, by omega⟩ ?_
  refine k_icmp_eq C 4 rfl 1051 (by decide) (fun _ => ?_) (fun hc => absurd rfl hc)
  exact k_widen (by omega) (by omega) (hk2 _ _ _ h3)
theorem la_run (H : St_run R) (hC : Cl Z D cy) (S : Sx Z b L xs) (hL : L ≤ 3072) (hi : i + 6 ≤ L) (hr : R s M) (hk : kc + 5 ≤ 600000 ∧ ks + 1604 ≤ 7302250) (hk2 : ∀ ra s M, R s M → Wk Z D 4 (kc + 5) (ks + 1604) (wLw cy AD ra s M) 1051 [(0, .ref b), (1, .ref (AD 0 0)), (2, .ref (AD 10 0)), (3, .int (nI i))] []) : Wk Z D 4 kc ks (wLw cy AD ra s M) 567 [(0, .ref b), (1, .ref (AD 0 0)), (2, .ref (AD 10 0)), (3, .int (nI i))] [] := by
  have C := hC tL_run htL_run
  rcases H s M (xs (i + 1)) (xs (i + 2)) hr with h | h
  · obtain ⟨j, r, O1, N1, H1, M1, hj, h1, h2, h3⟩ := h
    refine k_aload_1 C 0 rfl 1 rfl ?_
    refine k_aload_0 C 1 rfl 0 rfl ?_
    refine k_iload_3 C 2 rfl 3 rfl ?_
    refine k_iconst C 3 rfl ci_1 ?_
    refine k_iadd C 4 rfl ?_
    refine k_sld C S hL 5 rfl (nI_add i 1) (by omega) ?_
    refine k_aload_0 C 6 rfl 0 rfl ?_
    refine k_iload_3 C 7 rfl 3 rfl ?_
    refine k_iconst C 8 rfl ci_2 ?_
    refine k_iadd C 9 rfl ?_
    refine k_sld C S hL 10 rfl (nI_add i 2) (by omega) ?_
    refine lx_run C 11 hj rfl h1 (Nat.le_of_ble_eq_true rfl) ⟨by omega, by omega⟩ ?_
    refine k_aload_2 C 12 rfl 2 rfl ?_
    refine k_aload_0 C 13 rfl 0 rfl ?_
    refine k_iload_3 C 14 rfl 3 rfl ?_
    refine k_iconst C 15 rfl ci_1 ?_
    refine k_iadd C 16 rfl ?_
    refine k_sld C S hL 17 rfl (nI_add i 1) (by omega) ?_
    refine k_aload_0 C 18 rfl 0 rfl ?_
    refine k_iload_3 C 19 rfl 3 rfl ?_
    refine k_iconst C 20 rfl ci_2 ?_
    refine k_iadd C 21 rfl ?_
    refine k_sld C S hL 22 rfl (nI_add i 2) (by omega) ?_
    refine lm_run C 23 rfl h2 (Nat.le_of_ble_eq_true rfl) ⟨by omega, by omega⟩ ?_
    refine k_icmp_eq C 24 rfl 1051 (by decide) (fun _ => ?_) (fun hc => absurd rfl hc)
    exact k_widen (by omega) (by omega) (hk2 _ _ _ h3)
  · obtain ⟨M1, h1, h2, h3⟩ := h
    refine k_aload_1 C 0 rfl 1 rfl ?_
    refine k_aload_0 C 1 rfl 0 rfl ?_
    refine k_iload_3 C 2 rfl 3 rfl ?_
    refine k_iconst C 3 rfl ci_1 ?_
    refine k_iadd C 4 rfl ?_
    refine k_sld C S hL 5 rfl (nI_add i 1) (by omega) ?_
    refine k_aload_0 C 6 rfl 0 rfl ?_
    refine k_iload_3 C 7 rfl 3 rfl ?_
    refine k_iconst C 8 rfl ci_2 ?_
    refine k_iadd C 9 rfl ?_
    refine k_sld C S hL 10 rfl (nI_add i 2) (by omega) ?_
    refine lx_runN C 11 rfl h1 (Nat.le_of_ble_eq_true rfl) ⟨by omega, by omega⟩ ?_
    refine k_aload_2 C 12 rfl 2 rfl ?_
    refine k_aload_0 C 13 rfl 0 rfl ?_
    refine k_iload_3 C 14 rfl 3 rfl ?_
    refine k_iconst C 15 rfl ci_1 ?_
    refine k_iadd C 16 rfl ?_
    refine k_sld C S hL 17 rfl (nI_add i 1) (by omega) ?_
    refine k_aload_0 C 18 rfl 0 rfl ?_
    refine k_iload_3 C 19 rfl 3 rfl ?_
    refine k_iconst C 20 rfl ci_2 ?_
    refine k_iadd C 21 rfl ?_
    refine k_sld C S hL 22 rfl (nI_add i 2) (by omega) ?_
    refine lm_run C 23 rfl h2 (Nat.le_of_ble_eq_true rfl) ⟨by omega, by omega⟩ ?_
    refine k_icmp_eq C 24 rfl 1051 (by decide) (fun _ => ?_) (fun hc => absurd rfl hc)
    exact k_widen (by omega) (by omega) (hk2 _ _ _ h3)
theorem la_soonest (H : St_soonest R) (hC : Cl Z D cy) (S : Sx Z b L xs) (hL : L ≤ 3072) (hi : i + 6 ≤ L) (hr : R s M) (hk : kc + 5 ≤ 600000 ∧ ks + 1604 ≤ 7302250) (hk2 : ∀ ra s M, R s M → Wk Z D 4 (kc + 5) (ks + 1604) (wLw cy AD ra s M) 1051 [(0, .ref b), (1, .ref (AD 0 0)), (2, .ref (AD 10 0)), (3, .int (nI i))] []) : Wk Z D 4 kc ks (wLw cy AD ra s M) 600 [(0, .ref b), (1, .ref (AD 0 0)), (2, .ref (AD 10 0)), (3, .int (nI i))] [] := by
  have C := hC tL_soonest htL_soonest
  obtain ⟨r, S1, M1, h1, h2, h3⟩ := H s M (xs (i + 1)) hr
  refine k_aload_1 C 0 rfl 1 rfl ?_
  refine k_aload_0 C 1 rfl 0 rfl ?_
  refine k_iload_3 C 2 rfl 3 rfl ?_
  refine k_iconst C 3 rfl ci_1 ?_
  refine k_iadd C 4 rfl ?_
  refine k_sld C S hL 5 rfl (nI_add i 1) (by omega) ?_
  refine lx_soonest C 6 rfl h1 (Nat.le_of_ble_eq_true rfl) ⟨by omega, by omega⟩ ?_
  refine k_aload_2 C 7 rfl 2 rfl ?_
  refine k_aload_0 C 8 rfl 0 rfl ?_
  refine k_iload_3 C 9 rfl 3 rfl ?_
  refine k_iconst C 10 rfl ci_1 ?_
  refine k_iadd C 11 rfl ?_
  refine k_sld C S hL 12 rfl (nI_add i 1) (by omega) ?_
  refine lm_soonest C 13 rfl h2 (Nat.le_of_ble_eq_true rfl) ⟨by omega, by omega⟩ ?_
  refine k_icmp_eq C 14 rfl 1051 (by decide) (fun _ => ?_) (fun hc => absurd rfl hc)
  exact k_widen (by omega) (by omega) (hk2 _ _ _ h3)
theorem la_row (H : St_row R) (hC : Cl Z D cy) (S : Sx Z b L xs) (hL : L ≤ 3072) (hi : i + 6 ≤ L) (hr : R s M) (hk : kc + 5 ≤ 600000 ∧ ks + 1604 ≤ 7302250) (hk2 : ∀ ra s M, R s M → Wk Z D 4 (kc + 5) (ks + 1604) (wLw cy AD ra s M) 1051 [(0, .ref b), (1, .ref (AD 0 0)), (2, .ref (AD 10 0)), (3, .int (nI i))] []) : Wk Z D 4 kc ks (wLw cy AD ra s M) 623 [(0, .ref b), (1, .ref (AD 0 0)), (2, .ref (AD 10 0)), (3, .int (nI i))] [] := by
  have C := hC tL_row htL_row
  obtain ⟨r, S1, M1, h1, h2, h3⟩ := H s M (xs (i + 1)) (xs (i + 2)) (xs (i + 3)) hr
  refine k_aload_1 C 0 rfl 1 rfl ?_
  refine k_aload_0 C 1 rfl 0 rfl ?_
  refine k_iload_3 C 2 rfl 3 rfl ?_
  refine k_iconst C 3 rfl ci_1 ?_
  refine k_iadd C 4 rfl ?_
  refine k_sld C S hL 5 rfl (nI_add i 1) (by omega) ?_
  refine k_aload_0 C 6 rfl 0 rfl ?_
  refine k_iload_3 C 7 rfl 3 rfl ?_
  refine k_iconst C 8 rfl ci_2 ?_
  refine k_iadd C 9 rfl ?_
  refine k_sld C S hL 10 rfl (nI_add i 2) (by omega) ?_
  refine k_aload_0 C 11 rfl 0 rfl ?_
  refine k_iload_3 C 12 rfl 3 rfl ?_
  refine k_iconst C 13 rfl ci_3 ?_
  refine k_iadd C 14 rfl ?_
  refine k_sld C S hL 15 rfl (nI_add i 3) (by omega) ?_
  refine lx_row C 16 rfl h1 (Nat.le_of_ble_eq_true rfl) ⟨by omega, by omega⟩ ?_
  refine k_aload_2 C 17 rfl 2 rfl ?_
  refine k_aload_0 C 18 rfl 0 rfl ?_
  refine k_iload_3 C 19 rfl 3 rfl ?_
  refine k_iconst C 20 rfl ci_1 ?_
  refine k_iadd C 21 rfl ?_
  refine k_sld C S hL 22 rfl (nI_add i 1) (by omega) ?_
  refine k_aload_0 C 23 rfl 0 rfl ?_
  refine k_iload_3 C 24 rfl 3 rfl ?_
  refine k_iconst C 25 rfl ci_2 ?_
  refine k_iadd C 26 rfl ?_
  refine k_sld C S hL 27 rfl (nI_add i 2) (by omega) ?_
  refine k_aload_0 C 28 rfl 0 rfl ?_
  refine k_iload_3 C 29 rfl 3 rfl ?_
  refine k_iconst C 30 rfl ci_3 ?_
  refine k_iadd C 31 rfl ?_
  refine k_sld C S hL 32 rfl (nI_add i 3) (by omega) ?_
  refine lm_row C 33 rfl h2 (Nat.le_of_ble_eq_true rfl) ⟨by omega, by omega⟩ ?_
  refine k_icmp_eq C 34 rfl 1051 (by decide) (fun _ => ?_) (fun hc => absurd rfl hc)
  exact k_widen (by omega) (by omega) (hk2 _ _ _ h3)
theorem la_latest (H : St_latest R) (hC : Cl Z D cy) (S : Sx Z b L xs) (hL : L ≤ 3072) (hi : i + 6 ≤ L) (hr : R s M) (hk : kc + 5 ≤ 600000 ∧ ks + 1604 ≤ 7302250) (hk2 : ∀ ra s M, R s M → Wk Z D 4 (kc + 5) (ks + 1604) (wLw cy AD ra s M) 1051 [(0, .ref b), (1, .ref (AD 0 0)), (2, .ref (AD 10 0)), (3, .int (nI i))] []) : Wk Z D 4 kc ks (wLw cy AD ra s M) 666 [(0, .ref b), (1, .ref (AD 0 0)), (2, .ref (AD 10 0)), (3, .int (nI i))] [] := by
  have C := hC tL_latest htL_latest
  obtain ⟨r, S1, M1, h1, h2, h3⟩ := H s M (xs (i + 1)) hr
  refine k_aload_1 C 0 rfl 1 rfl ?_
  refine k_aload_0 C 1 rfl 0 rfl ?_
  refine k_iload_3 C 2 rfl 3 rfl ?_
  refine k_iconst C 3 rfl ci_1 ?_
  refine k_iadd C 4 rfl ?_
  refine k_sld C S hL 5 rfl (nI_add i 1) (by omega) ?_
  refine lx_latest C 6 rfl h1 (Nat.le_of_ble_eq_true rfl) ⟨by omega, by omega⟩ ?_
  refine k_aload_2 C 7 rfl 2 rfl ?_
  refine k_aload_0 C 8 rfl 0 rfl ?_
  refine k_iload_3 C 9 rfl 3 rfl ?_
  refine k_iconst C 10 rfl ci_1 ?_
  refine k_iadd C 11 rfl ?_
  refine k_sld C S hL 12 rfl (nI_add i 1) (by omega) ?_
  refine lm_latest C 13 rfl h2 (Nat.le_of_ble_eq_true rfl) ⟨by omega, by omega⟩ ?_
  refine k_icmp_eq C 14 rfl 1051 (by decide) (fun _ => ?_) (fun hc => absurd rfl hc)
  exact k_widen (by omega) (by omega) (hk2 _ _ _ h3)
theorem la_lost (H : St_lost R) (hC : Cl Z D cy) (S : Sx Z b L xs) (hL : L ≤ 3072) (hi : i + 6 ≤ L) (hr : R s M) (hk : kc + 5 ≤ 600000 ∧ ks + 1604 ≤ 7302250) (hk2 : ∀ ra s M, R s M → Wk Z D 4 (kc + 5) (ks + 1604) (wLw cy AD ra s M) 1051 [(0, .ref b), (1, .ref (AD 0 0)), (2, .ref (AD 10 0)), (3, .int (nI i))] []) : Wk Z D 4 kc ks (wLw cy AD ra s M) 689 [(0, .ref b), (1, .ref (AD 0 0)), (2, .ref (AD 10 0)), (3, .int (nI i))] [] := by
  have C := hC tL_lost htL_lost
  obtain ⟨r, S1, M1, h1, h2, h3⟩ := H s M  hr
  refine k_aload_1 C 0 rfl 1 rfl ?_
  refine lx_lost C 1 rfl h1 (Nat.le_of_ble_eq_true rfl) ⟨by omega, by omega⟩ ?_
  refine k_aload_2 C 2 rfl 2 rfl ?_
  refine lm_lost C 3 rfl h2 (Nat.le_of_ble_eq_true rfl) ⟨by omega, by omega⟩ ?_
  refine k_icmp_eq C 4 rfl 1051 (by decide) (fun _ => ?_) (fun hc => absurd rfl hc)
  exact k_widen (by omega) (by omega) (hk2 _ _ _ h3)
theorem la_voice (H : St_voice R) (hC : Cl Z D cy) (S : Sx Z b L xs) (hL : L ≤ 3072) (hi : i + 6 ≤ L) (hr : R s M) (hk : kc + 5 ≤ 600000 ∧ ks + 1604 ≤ 7302250) (hk2 : ∀ ra s M, R s M → Wk Z D 4 (kc + 5) (ks + 1604) (wLw cy AD ra s M) 1051 [(0, .ref b), (1, .ref (AD 0 0)), (2, .ref (AD 10 0)), (3, .int (nI i))] []) : Wk Z D 4 kc ks (wLw cy AD ra s M) 702 [(0, .ref b), (1, .ref (AD 0 0)), (2, .ref (AD 10 0)), (3, .int (nI i))] [] := by
  have C := hC tL_voice htL_voice
  obtain ⟨r, S1, M1, h1, h2, h3⟩ := H s M (xs (i + 1)) hr
  refine k_aload_1 C 0 rfl 1 rfl ?_
  refine k_aload_0 C 1 rfl 0 rfl ?_
  refine k_iload_3 C 2 rfl 3 rfl ?_
  refine k_iconst C 3 rfl ci_1 ?_
  refine k_iadd C 4 rfl ?_
  refine k_sld C S hL 5 rfl (nI_add i 1) (by omega) ?_
  refine lx_voice C 6 rfl h1 (Nat.le_of_ble_eq_true rfl) ⟨by omega, by omega⟩ ?_
  refine k_aload_2 C 7 rfl 2 rfl ?_
  refine k_aload_0 C 8 rfl 0 rfl ?_
  refine k_iload_3 C 9 rfl 3 rfl ?_
  refine k_iconst C 10 rfl ci_1 ?_
  refine k_iadd C 11 rfl ?_
  refine k_sld C S hL 12 rfl (nI_add i 1) (by omega) ?_
  refine lm_voice C 13 rfl h2 (Nat.le_of_ble_eq_true rfl) ⟨by omega, by omega⟩ ?_
  refine k_icmp_eq C 14 rfl 1051 (by decide) (fun _ => ?_) (fun hc => absurd rfl hc)
  exact k_widen (by omega) (by omega) (hk2 _ _ _ h3)
theorem la_voices (H : St_voices R) (hC : Cl Z D cy) (S : Sx Z b L xs) (hL : L ≤ 3072) (hi : i + 6 ≤ L) (hr : R s M) (hk : kc + 5 ≤ 600000 ∧ ks + 1604 ≤ 7302250) (hk2 : ∀ ra s M, R s M → Wk Z D 4 (kc + 5) (ks + 1604) (wLw cy AD ra s M) 1051 [(0, .ref b), (1, .ref (AD 0 0)), (2, .ref (AD 10 0)), (3, .int (nI i))] []) : Wk Z D 4 kc ks (wLw cy AD ra s M) 725 [(0, .ref b), (1, .ref (AD 0 0)), (2, .ref (AD 10 0)), (3, .int (nI i))] [] := by
  have C := hC tL_voices htL_voices
  obtain ⟨r, S1, M1, h1, h2, h3⟩ := H s M  hr
  refine k_aload_1 C 0 rfl 1 rfl ?_
  refine lx_voices C 1 rfl h1 (Nat.le_of_ble_eq_true rfl) ⟨by omega, by omega⟩ ?_
  refine k_aload_2 C 2 rfl 2 rfl ?_
  refine lm_voices C 3 rfl h2 (Nat.le_of_ble_eq_true rfl) ⟨by omega, by omega⟩ ?_
  refine k_icmp_eq C 4 rfl 1051 (by decide) (fun _ => ?_) (fun hc => absurd rfl hc)
  exact k_widen (by omega) (by omega) (hk2 _ _ _ h3)
theorem la_put (H : St_put R) (hC : Cl Z D cy) (S : Sx Z b L xs) (hL : L ≤ 3072) (hi : i + 6 ≤ L) (hr : R s M) (hk : kc + 5 ≤ 600000 ∧ ks + 1604 ≤ 7302250) (hk2 : ∀ ra s M, R s M → Wk Z D 4 (kc + 5) (ks + 1604) (wLw cy AD ra s M) 1051 [(0, .ref b), (1, .ref (AD 0 0)), (2, .ref (AD 10 0)), (3, .int (nI i))] []) : Wk Z D 4 kc ks (wLw cy AD ra s M) 738 [(0, .ref b), (1, .ref (AD 0 0)), (2, .ref (AD 10 0)), (3, .int (nI i))] [] := by
  have C := hC tL_put htL_put
  obtain ⟨r, S1, M1, h1, h2, h3⟩ := H s M (xs (i + 1)) hr
  refine k_aload_1 C 0 rfl 1 rfl ?_
  refine k_aload_0 C 1 rfl 0 rfl ?_
  refine k_iload_3 C 2 rfl 3 rfl ?_
  refine k_iconst C 3 rfl ci_1 ?_
  refine k_iadd C 4 rfl ?_
  refine k_sld C S hL 5 rfl (nI_add i 1) (by omega) ?_
  refine lx_put C 6 rfl h1 (Nat.le_of_ble_eq_true rfl) ⟨by omega, by omega⟩ ?_
  refine k_aload_2 C 7 rfl 2 rfl ?_
  refine k_aload_0 C 8 rfl 0 rfl ?_
  refine k_iload_3 C 9 rfl 3 rfl ?_
  refine k_iconst C 10 rfl ci_1 ?_
  refine k_iadd C 11 rfl ?_
  refine k_sld C S hL 12 rfl (nI_add i 1) (by omega) ?_
  refine lm_put C 13 rfl h2 (Nat.le_of_ble_eq_true rfl) ⟨by omega, by omega⟩ ?_
  refine k_icmp_eq C 14 rfl 1051 (by decide) (fun _ => ?_) (fun hc => absurd rfl hc)
  exact k_widen (by omega) (by omega) (hk2 _ _ _ h3)
theorem la_family (H : St_family R) (hC : Cl Z D cy) (S : Sx Z b L xs) (hL : L ≤ 3072) (hi : i + 6 ≤ L) (hr : R s M) (hk : kc + 5 ≤ 600000 ∧ ks + 1604 ≤ 7302250) (hk2 : ∀ ra s M, R s M → Wk Z D 4 (kc + 5) (ks + 1604) (wLw cy AD ra s M) 1051 [(0, .ref b), (1, .ref (AD 0 0)), (2, .ref (AD 10 0)), (3, .int (nI i))] []) : Wk Z D 4 kc ks (wLw cy AD ra s M) 761 [(0, .ref b), (1, .ref (AD 0 0)), (2, .ref (AD 10 0)), (3, .int (nI i))] [] := by
  have C := hC tL_family htL_family
  obtain ⟨r, S1, M1, h1, h2, h3⟩ := H s M (xs (i + 1)) (xs (i + 2)) hr
  refine k_aload_1 C 0 rfl 1 rfl ?_
  refine k_aload_0 C 1 rfl 0 rfl ?_
  refine k_iload_3 C 2 rfl 3 rfl ?_
  refine k_iconst C 3 rfl ci_1 ?_
  refine k_iadd C 4 rfl ?_
  refine k_sld C S hL 5 rfl (nI_add i 1) (by omega) ?_
  refine k_aload_0 C 6 rfl 0 rfl ?_
  refine k_iload_3 C 7 rfl 3 rfl ?_
  refine k_iconst C 8 rfl ci_2 ?_
  refine k_iadd C 9 rfl ?_
  refine k_sld C S hL 10 rfl (nI_add i 2) (by omega) ?_
  refine lx_family C 11 rfl h1 (Nat.le_of_ble_eq_true rfl) ⟨by omega, by omega⟩ ?_
  refine k_aload_2 C 12 rfl 2 rfl ?_
  refine k_aload_0 C 13 rfl 0 rfl ?_
  refine k_iload_3 C 14 rfl 3 rfl ?_
  refine k_iconst C 15 rfl ci_1 ?_
  refine k_iadd C 16 rfl ?_
  refine k_sld C S hL 17 rfl (nI_add i 1) (by omega) ?_
  refine k_aload_0 C 18 rfl 0 rfl ?_
  refine k_iload_3 C 19 rfl 3 rfl ?_
  refine k_iconst C 20 rfl ci_2 ?_
  refine k_iadd C 21 rfl ?_
  refine k_sld C S hL 22 rfl (nI_add i 2) (by omega) ?_
  refine lm_family C 23 rfl h2 (Nat.le_of_ble_eq_true rfl) ⟨by omega, by omega⟩ ?_
  refine k_icmp_eq C 24 rfl 1051 (by decide) (fun _ => ?_) (fun hc => absurd rfl hc)
  exact k_widen (by omega) (by omega) (hk2 _ _ _ h3)
theorem la_meet (H : St_meet R) (hC : Cl Z D cy) (S : Sx Z b L xs) (hL : L ≤ 3072) (hi : i + 6 ≤ L) (hr : R s M) (hk : kc + 5 ≤ 600000 ∧ ks + 1604 ≤ 7302250) (hk2 : ∀ ra s M, R s M → Wk Z D 4 (kc + 5) (ks + 1604) (wLw cy AD ra s M) 1051 [(0, .ref b), (1, .ref (AD 0 0)), (2, .ref (AD 10 0)), (3, .int (nI i))] []) : Wk Z D 4 kc ks (wLw cy AD ra s M) 794 [(0, .ref b), (1, .ref (AD 0 0)), (2, .ref (AD 10 0)), (3, .int (nI i))] [] := by
  have C := hC tL_meet htL_meet
  obtain ⟨r, S1, M1, h1, h2, h3⟩ := H s M (xs (i + 1)) (xs (i + 2)) (xs (i + 3)) hr
  refine k_aload_1 C 0 rfl 1 rfl ?_
  refine k_aload_0 C 1 rfl 0 rfl ?_
  refine k_iload_3 C 2 rfl 3 rfl ?_
  refine k_iconst C 3 rfl ci_1 ?_
  refine k_iadd C 4 rfl ?_
  refine k_sld C S hL 5 rfl (nI_add i 1) (by omega) ?_
  refine k_aload_0 C 6 rfl 0 rfl ?_
  refine k_iload_3 C 7 rfl 3 rfl ?_
  refine k_iconst C 8 rfl ci_2 ?_
  refine k_iadd C 9 rfl ?_
  refine k_sld C S hL 10 rfl (nI_add i 2) (by omega) ?_
  refine k_aload_0 C 11 rfl 0 rfl ?_
  refine k_iload_3 C 12 rfl 3 rfl ?_
  refine k_iconst C 13 rfl ci_3 ?_
  refine k_iadd C 14 rfl ?_
  refine k_sld C S hL 15 rfl (nI_add i 3) (by omega) ?_
  refine lx_meet C 16 rfl h1 (Nat.le_of_ble_eq_true rfl) ⟨by omega, by omega⟩ ?_
  refine k_aload_2 C 17 rfl 2 rfl ?_
  refine k_aload_0 C 18 rfl 0 rfl ?_
  refine k_iload_3 C 19 rfl 3 rfl ?_
  refine k_iconst C 20 rfl ci_1 ?_
  refine k_iadd C 21 rfl ?_
  refine k_sld C S hL 22 rfl (nI_add i 1) (by omega) ?_
  refine k_aload_0 C 23 rfl 0 rfl ?_
  refine k_iload_3 C 24 rfl 3 rfl ?_
  refine k_iconst C 25 rfl ci_2 ?_
  refine k_iadd C 26 rfl ?_
  refine k_sld C S hL 27 rfl (nI_add i 2) (by omega) ?_
  refine k_aload_0 C 28 rfl 0 rfl ?_
  refine k_iload_3 C 29 rfl 3 rfl ?_
  refine k_iconst C 30 rfl ci_3 ?_
  refine k_iadd C 31 rfl ?_
  refine k_sld C S hL 32 rfl (nI_add i 3) (by omega) ?_
  refine lm_meet C 33 rfl h2 (Nat.le_of_ble_eq_true rfl) ⟨by omega, by omega⟩ ?_
  refine k_icmp_eq C 34 rfl 1051 (by decide) (fun _ => ?_) (fun hc => absurd rfl hc)
  exact k_widen (by omega) (by omega) (hk2 _ _ _ h3)
theorem la_seen (H : St_seen R) (hC : Cl Z D cy) (S : Sx Z b L xs) (hL : L ≤ 3072) (hi : i + 6 ≤ L) (hr : R s M) (hk : kc + 5 ≤ 600000 ∧ ks + 1604 ≤ 7302250) (hk2 : ∀ ra s M, R s M → Wk Z D 4 (kc + 5) (ks + 1604) (wLw cy AD ra s M) 1051 [(0, .ref b), (1, .ref (AD 0 0)), (2, .ref (AD 10 0)), (3, .int (nI i))] []) : Wk Z D 4 kc ks (wLw cy AD ra s M) 837 [(0, .ref b), (1, .ref (AD 0 0)), (2, .ref (AD 10 0)), (3, .int (nI i))] [] := by
  have C := hC tL_seen htL_seen
  obtain ⟨r, E1, M1, h1, h2, h3⟩ := H s M (xs (i + 1)) (xs (i + 2)) (xs (i + 3)) hr
  refine k_aload_1 C 0 rfl 1 rfl ?_
  refine k_aload_0 C 1 rfl 0 rfl ?_
  refine k_iload_3 C 2 rfl 3 rfl ?_
  refine k_iconst C 3 rfl ci_1 ?_
  refine k_iadd C 4 rfl ?_
  refine k_sld C S hL 5 rfl (nI_add i 1) (by omega) ?_
  refine k_aload_0 C 6 rfl 0 rfl ?_
  refine k_iload_3 C 7 rfl 3 rfl ?_
  refine k_iconst C 8 rfl ci_2 ?_
  refine k_iadd C 9 rfl ?_
  refine k_sld C S hL 10 rfl (nI_add i 2) (by omega) ?_
  refine k_aload_0 C 11 rfl 0 rfl ?_
  refine k_iload_3 C 12 rfl 3 rfl ?_
  refine k_iconst C 13 rfl ci_3 ?_
  refine k_iadd C 14 rfl ?_
  refine k_sld C S hL 15 rfl (nI_add i 3) (by omega) ?_
  refine lx_seen C 16 rfl h1 (Nat.le_of_ble_eq_true rfl) ⟨by omega, by omega⟩ ?_
  refine k_aload_2 C 17 rfl 2 rfl ?_
  refine k_aload_0 C 18 rfl 0 rfl ?_
  refine k_iload_3 C 19 rfl 3 rfl ?_
  refine k_iconst C 20 rfl ci_1 ?_
  refine k_iadd C 21 rfl ?_
  refine k_sld C S hL 22 rfl (nI_add i 1) (by omega) ?_
  refine k_aload_0 C 23 rfl 0 rfl ?_
  refine k_iload_3 C 24 rfl 3 rfl ?_
  refine k_iconst C 25 rfl ci_2 ?_
  refine k_iadd C 26 rfl ?_
  refine k_sld C S hL 27 rfl (nI_add i 2) (by omega) ?_
  refine k_aload_0 C 28 rfl 0 rfl ?_
  refine k_iload_3 C 29 rfl 3 rfl ?_
  refine k_iconst C 30 rfl ci_3 ?_
  refine k_iadd C 31 rfl ?_
  refine k_sld C S hL 32 rfl (nI_add i 3) (by omega) ?_
  refine lm_seen C 33 rfl h2 (Nat.le_of_ble_eq_true rfl) ⟨by omega, by omega⟩ ?_
  refine k_icmp_eq C 34 rfl 1051 (by decide) (fun _ => ?_) (fun hc => absurd rfl hc)
  exact k_widen (by omega) (by omega) (hk2 _ _ _ h3)
theorem la_gotIn (H : St_gotIn R) (hC : Cl Z D cy) (S : Sx Z b L xs) (hL : L ≤ 3072) (hi : i + 6 ≤ L) (hr : R s M) (hk : kc + 5 ≤ 600000 ∧ ks + 1604 ≤ 7302250) (hk2 : ∀ ra s M, R s M → Wk Z D 4 (kc + 5) (ks + 1604) (wLw cy AD ra s M) 1051 [(0, .ref b), (1, .ref (AD 0 0)), (2, .ref (AD 10 0)), (3, .int (nI i))] []) : Wk Z D 4 kc ks (wLw cy AD ra s M) 880 [(0, .ref b), (1, .ref (AD 0 0)), (2, .ref (AD 10 0)), (3, .int (nI i))] [] := by
  have C := hC tL_gotIn htL_gotIn
  obtain ⟨r, S1, M1, h1, h2, h3⟩ := H s M (xs (i + 1)) hr
  refine k_aload_1 C 0 rfl 1 rfl ?_
  refine k_aload_0 C 1 rfl 0 rfl ?_
  refine k_iload_3 C 2 rfl 3 rfl ?_
  refine k_iconst C 3 rfl ci_1 ?_
  refine k_iadd C 4 rfl ?_
  refine k_sld C S hL 5 rfl (nI_add i 1) (by omega) ?_
  refine lx_gotIn C 6 rfl h1 (Nat.le_of_ble_eq_true rfl) ⟨by omega, by omega⟩ ?_
  refine k_aload_2 C 7 rfl 2 rfl ?_
  refine k_aload_0 C 8 rfl 0 rfl ?_
  refine k_iload_3 C 9 rfl 3 rfl ?_
  refine k_iconst C 10 rfl ci_1 ?_
  refine k_iadd C 11 rfl ?_
  refine k_sld C S hL 12 rfl (nI_add i 1) (by omega) ?_
  refine lm_gotIn C 13 rfl h2 (Nat.le_of_ble_eq_true rfl) ⟨by omega, by omega⟩ ?_
  refine k_icmp_eq C 14 rfl 1051 (by decide) (fun _ => ?_) (fun hc => absurd rfl hc)
  exact k_widen (by omega) (by omega) (hk2 _ _ _ h3)
theorem la_sit (H : St_sit R) (hC : Cl Z D cy) (S : Sx Z b L xs) (hL : L ≤ 3072) (hi : i + 6 ≤ L) (hr : R s M) (hk : kc + 5 ≤ 600000 ∧ ks + 1604 ≤ 7302250) (hk2 : ∀ ra s M, R s M → Wk Z D 4 (kc + 5) (ks + 1604) (wLw cy AD ra s M) 1051 [(0, .ref b), (1, .ref (AD 0 0)), (2, .ref (AD 10 0)), (3, .int (nI i))] []) : Wk Z D 4 kc ks (wLw cy AD ra s M) 903 [(0, .ref b), (1, .ref (AD 0 0)), (2, .ref (AD 10 0)), (3, .int (nI i))] [] := by
  have C := hC tL_sit htL_sit
  obtain ⟨r, h1, h2, h3⟩ := H s M (xs (i + 1)) hr
  refine k_aload_1 C 0 rfl 1 rfl ?_
  refine k_aload_0 C 1 rfl 0 rfl ?_
  refine k_iload_3 C 2 rfl 3 rfl ?_
  refine k_iconst C 3 rfl ci_1 ?_
  refine k_iadd C 4 rfl ?_
  refine k_sld C S hL 5 rfl (nI_add i 1) (by omega) ?_
  refine lx_sit C 6 rfl h1 (Nat.le_of_ble_eq_true rfl) ⟨by omega, by omega⟩ ?_
  refine k_aload_2 C 7 rfl 2 rfl ?_
  refine k_aload_0 C 8 rfl 0 rfl ?_
  refine k_iload_3 C 9 rfl 3 rfl ?_
  refine k_iconst C 10 rfl ci_1 ?_
  refine k_iadd C 11 rfl ?_
  refine k_sld C S hL 12 rfl (nI_add i 1) (by omega) ?_
  refine lm_sit C 13 rfl h2 (Nat.le_of_ble_eq_true rfl) ⟨by omega, by omega⟩ ?_
  refine k_icmp_eq C 14 rfl 1051 (by decide) (fun _ => ?_) (fun hc => absurd rfl hc)
  exact k_widen (by omega) (by omega) (hk2 _ _ _ h3)
theorem la_seed (H : St_seed R) (hC : Cl Z D cy) (S : Sx Z b L xs) (hL : L ≤ 3072) (hi : i + 6 ≤ L) (hr : R s M) (hk : kc + 5 ≤ 600000 ∧ ks + 1604 ≤ 7302250) (hk2 : ∀ ra s M, R s M → Wk Z D 4 (kc + 5) (ks + 1604) (wLw cy AD ra s M) 1051 [(0, .ref b), (1, .ref (AD 0 0)), (2, .ref (AD 10 0)), (3, .int (nI i))] []) : Wk Z D 4 kc ks (wLw cy AD ra s M) 926 [(0, .ref b), (1, .ref (AD 0 0)), (2, .ref (AD 10 0)), (3, .int (nI i))] [] := by
  have C := hC tL_seed htL_seed
  obtain ⟨r, X1, M1, h1, h2, h3⟩ := H s M (xs (i + 1)) hr
  refine k_aload_1 C 0 rfl 1 rfl ?_
  refine k_aload_0 C 1 rfl 0 rfl ?_
  refine k_iload_3 C 2 rfl 3 rfl ?_
  refine k_iconst C 3 rfl ci_1 ?_
  refine k_iadd C 4 rfl ?_
  refine k_sld C S hL 5 rfl (nI_add i 1) (by omega) ?_
  refine lx_seed C 6 rfl h1 (Nat.le_of_ble_eq_true rfl) ⟨by omega, by omega⟩ ?_
  refine k_aload_2 C 7 rfl 2 rfl ?_
  refine k_aload_0 C 8 rfl 0 rfl ?_
  refine k_iload_3 C 9 rfl 3 rfl ?_
  refine k_iconst C 10 rfl ci_1 ?_
  refine k_iadd C 11 rfl ?_
  refine k_sld C S hL 12 rfl (nI_add i 1) (by omega) ?_
  refine lm_seed C 13 rfl h2 (Nat.le_of_ble_eq_true rfl) ⟨by omega, by omega⟩ ?_
  refine k_icmp_eq C 14 rfl 1051 (by decide) (fun _ => ?_) (fun hc => absurd rfl hc)
  exact k_widen (by omega) (by omega) (hk2 _ _ _ h3)
theorem la_journeys (H : St_journeys R) (hC : Cl Z D cy) (S : Sx Z b L xs) (hL : L ≤ 3072) (hi : i + 6 ≤ L) (hr : R s M) (hk : kc + 5 ≤ 600000 ∧ ks + 1604 ≤ 7302250) (hk2 : ∀ ra s M, R s M → Wk Z D 4 (kc + 5) (ks + 1604) (wLw cy AD ra s M) 1051 [(0, .ref b), (1, .ref (AD 0 0)), (2, .ref (AD 10 0)), (3, .int (nI i))] []) : Wk Z D 4 kc ks (wLw cy AD ra s M) 949 [(0, .ref b), (1, .ref (AD 0 0)), (2, .ref (AD 10 0)), (3, .int (nI i))] [] := by
  have C := hC tL_journeys htL_journeys
  obtain ⟨r, S1, M1, h1, h2, h3⟩ := H s M (xs (i + 1)) (xs (i + 2)) hr
  refine k_aload_1 C 0 rfl 1 rfl ?_
  refine k_aload_0 C 1 rfl 0 rfl ?_
  refine k_iload_3 C 2 rfl 3 rfl ?_
  refine k_iconst C 3 rfl ci_1 ?_
  refine k_iadd C 4 rfl ?_
  refine k_sld C S hL 5 rfl (nI_add i 1) (by omega) ?_
  refine k_aload_0 C 6 rfl 0 rfl ?_
  refine k_iload_3 C 7 rfl 3 rfl ?_
  refine k_iconst C 8 rfl ci_2 ?_
  refine k_iadd C 9 rfl ?_
  refine k_sld C S hL 10 rfl (nI_add i 2) (by omega) ?_
  refine lx_journeys C 11 rfl h1 (Nat.le_of_ble_eq_true rfl) ⟨by omega, by omega⟩ ?_
  refine k_aload_2 C 12 rfl 2 rfl ?_
  refine k_aload_0 C 13 rfl 0 rfl ?_
  refine k_iload_3 C 14 rfl 3 rfl ?_
  refine k_iconst C 15 rfl ci_1 ?_
  refine k_iadd C 16 rfl ?_
  refine k_sld C S hL 17 rfl (nI_add i 1) (by omega) ?_
  refine k_aload_0 C 18 rfl 0 rfl ?_
  refine k_iload_3 C 19 rfl 3 rfl ?_
  refine k_iconst C 20 rfl ci_2 ?_
  refine k_iadd C 21 rfl ?_
  refine k_sld C S hL 22 rfl (nI_add i 2) (by omega) ?_
  refine lm_journeys C 23 rfl h2 (Nat.le_of_ble_eq_true rfl) ⟨by omega, by omega⟩ ?_
  refine k_icmp_eq C 24 rfl 1051 (by decide) (fun _ => ?_) (fun hc => absurd rfl hc)
  exact k_widen (by omega) (by omega) (hk2 _ _ _ h3)
theorem la_count (H : St_count R) (hC : Cl Z D cy) (S : Sx Z b L xs) (hL : L ≤ 3072) (hi : i + 6 ≤ L) (hr : R s M) (hk : kc + 5 ≤ 600000 ∧ ks + 1604 ≤ 7302250) (hk2 : ∀ ra s M, R s M → Wk Z D 4 (kc + 5) (ks + 1604) (wLw cy AD ra s M) 1051 [(0, .ref b), (1, .ref (AD 0 0)), (2, .ref (AD 10 0)), (3, .int (nI i))] []) : Wk Z D 4 kc ks (wLw cy AD ra s M) 982 [(0, .ref b), (1, .ref (AD 0 0)), (2, .ref (AD 10 0)), (3, .int (nI i))] [] := by
  have C := hC tL_count htL_count
  obtain ⟨r, h1, h2, h3⟩ := H s M (xs (i + 1)) hr
  refine k_aload_1 C 0 rfl 1 rfl ?_
  refine k_aload_0 C 1 rfl 0 rfl ?_
  refine k_iload_3 C 2 rfl 3 rfl ?_
  refine k_iconst C 3 rfl ci_1 ?_
  refine k_iadd C 4 rfl ?_
  refine k_sld C S hL 5 rfl (nI_add i 1) (by omega) ?_
  refine lx_count C 6 rfl h1 (Nat.le_of_ble_eq_true rfl) ⟨by omega, by omega⟩ ?_
  refine k_aload_2 C 7 rfl 2 rfl ?_
  refine k_aload_0 C 8 rfl 0 rfl ?_
  refine k_iload_3 C 9 rfl 3 rfl ?_
  refine k_iconst C 10 rfl ci_1 ?_
  refine k_iadd C 11 rfl ?_
  refine k_sld C S hL 12 rfl (nI_add i 1) (by omega) ?_
  refine lm_count C 13 rfl h2 (Nat.le_of_ble_eq_true rfl) ⟨by omega, by omega⟩ ?_
  refine k_icmp_eq C 14 rfl 1051 (by decide) (fun _ => ?_) (fun hc => absurd rfl hc)
  exact k_widen (by omega) (by omega) (hk2 _ _ _ h3)
theorem la_image (H : St_image R) (hC : Cl Z D cy) (S : Sx Z b L xs) (hL : L ≤ 3072) (hi : i + 6 ≤ L) (hr : R s M) (hk : kc + 5 ≤ 600000 ∧ ks + 1604 ≤ 7302250) (hk2 : ∀ ra s M, R s M → Wk Z D 4 (kc + 5) (ks + 1604) (wLw cy AD ra s M) 1051 [(0, .ref b), (1, .ref (AD 0 0)), (2, .ref (AD 10 0)), (3, .int (nI i))] []) : Wk Z D 4 kc ks (wLw cy AD ra s M) 1005 [(0, .ref b), (1, .ref (AD 0 0)), (2, .ref (AD 10 0)), (3, .int (nI i))] [] := by
  have C := hC tL_image htL_image
  obtain ⟨j, r, F1, Ti1, Oi1, Ei1, Xi1, M1, hj, h1, h2, h3⟩ := H s M (xs (i + 1)) hr
  refine k_aload_1 C 0 rfl 1 rfl ?_
  refine k_aload_0 C 1 rfl 0 rfl ?_
  refine k_iload_3 C 2 rfl 3 rfl ?_
  refine k_iconst C 3 rfl ci_1 ?_
  refine k_iadd C 4 rfl ?_
  refine k_sld C S hL 5 rfl (nI_add i 1) (by omega) ?_
  refine lx_image C 6 hj rfl h1 (Nat.le_of_ble_eq_true rfl) ⟨by omega, by omega⟩ ?_
  refine k_aload_2 C 7 rfl 2 rfl ?_
  refine k_aload_0 C 8 rfl 0 rfl ?_
  refine k_iload_3 C 9 rfl 3 rfl ?_
  refine k_iconst C 10 rfl ci_1 ?_
  refine k_iadd C 11 rfl ?_
  refine k_sld C S hL 12 rfl (nI_add i 1) (by omega) ?_
  refine lm_image C 13 rfl h2 (Nat.le_of_ble_eq_true rfl) ⟨by omega, by omega⟩ ?_
  refine k_icmp_eq C 14 rfl 1051 (by decide) (fun _ => ?_) (fun hc => absurd rfl hc)
  exact k_widen (by omega) (by omega) (hk2 _ _ _ h3)
theorem la_back (H : St_back R) (hC : Cl Z D cy) (S : Sx Z b L xs) (hL : L ≤ 3072) (hi : i + 6 ≤ L) (hr : R s M) (hk : kc + 5 ≤ 600000 ∧ ks + 1604 ≤ 7302250) (hk2 : ∀ ra s M, R s M → Wk Z D 4 (kc + 5) (ks + 1604) (wLw cy AD ra s M) 1051 [(0, .ref b), (1, .ref (AD 0 0)), (2, .ref (AD 10 0)), (3, .int (nI i))] []) : Wk Z D 4 kc ks (wLw cy AD ra s M) 1028 [(0, .ref b), (1, .ref (AD 0 0)), (2, .ref (AD 10 0)), (3, .int (nI i))] [] := by
  have C := hC tL_back htL_back
  obtain ⟨j, r, T1, O1, E1, X1, H1, M1, hj, h1, h2, h3⟩ := H s M (xs (i + 1)) hr
  refine k_aload_1 C 0 rfl 1 rfl ?_
  refine k_aload_0 C 1 rfl 0 rfl ?_
  refine k_iload_3 C 2 rfl 3 rfl ?_
  refine k_iconst C 3 rfl ci_1 ?_
  refine k_iadd C 4 rfl ?_
  refine k_sld C S hL 5 rfl (nI_add i 1) (by omega) ?_
  refine lx_back C 6 hj rfl h1 (Nat.le_of_ble_eq_true rfl) ⟨by omega, by omega⟩ ?_
  refine k_aload_2 C 7 rfl 2 rfl ?_
  refine k_aload_0 C 8 rfl 0 rfl ?_
  refine k_iload_3 C 9 rfl 3 rfl ?_
  refine k_iconst C 10 rfl ci_1 ?_
  refine k_iadd C 11 rfl ?_
  refine k_sld C S hL 12 rfl (nI_add i 1) (by omega) ?_
  refine lm_back C 13 rfl h2 (Nat.le_of_ble_eq_true rfl) ⟨by omega, by omega⟩ ?_
  refine k_icmp_eq C 14 rfl 1051 (by decide) (fun _ => ?_) (fun hc => absurd rfl hc)
  exact k_widen (by omega) (by omega) (hk2 _ _ _ h3)
end
