/-! The law: its cases, its loop, its start (wip/tools/gen_law.py) -/
def lst_law : List (Nat × Instr × Nat) := [(0, .new 7, 3), (3, .dup, 1), (4, .invokespecial 9, 3), (7, .astore_n 1, 1), (8, .new 10, 3), (11, .dup, 1), (12, .invokespecial 12, 3), (15, .astore_n 2, 1), (16, .iconst 0, 1), (17, .istore_n 3, 1), (18, .iload_n 3, 1), (19, .aload_n 0, 1), (20, .arraylength, 1), (21, .iconst 4, 1), (22, .isub, 1), (23, .if_icmp .gt 687, 3), (26, .aload_n 0, 1), (27, .iload_n 3, 1), (28, .iaload, 1), (29, .bipush 31, 2), (31, .iand, 1), (32, .tableswitch 672 0 19 #[96, 119, 132, 145, 168, 191, 224, 258, 282, 306, 349, 382, 405, 428, 451, 475, 528, 592, 605, 639], 96), (128, .aload_n 1, 1), (129, .aload_n 0, 1), (130, .iload_n 3, 1), (131, .iconst 1, 1), (132, .iadd, 1), (133, .iaload, 1), (134, .invokevirtual 13, 3), (137, .aload_n 2, 1), (138, .aload_n 0, 1), (139, .iload_n 3, 1), (140, .iconst 1, 1), (141, .iadd, 1), (142, .iaload, 1), (143, .invokevirtual 17, 3), (146, .if_icmp .eq 558, 3), (149, .iconst 0, 1), (150, .ireturn, 1), (151, .aload_n 1, 1), (152, .invokevirtual 18, 3), (155, .aload_n 2, 1), (156, .invokevirtual 22, 3), (159, .if_icmp .eq 545, 3), (162, .iconst 0, 1), (163, .ireturn, 1), (164, .aload_n 1, 1), (165, .invokevirtual 23, 3), (168, .aload_n 2, 1), (169, .invokevirtual 26, 3), (172, .if_icmp .eq 532, 3), (175, .iconst 0, 1), (176, .ireturn, 1), (177, .aload_n 1, 1), (178, .aload_n 0, 1), (179, .iload_n 3, 1), (180, .iconst 1, 1), (181, .iadd, 1), (182, .iaload, 1), (183, .invokevirtual 27, 3), (186, .aload_n 2, 1), (187, .aload_n 0, 1), (188, .iload_n 3, 1), (189, .iconst 1, 1), (190, .iadd, 1), (191, .iaload, 1), (192, .invokevirtual 30, 3), (195, .if_icmp .eq 509, 3), (198, .iconst 0, 1), (199, .ireturn, 1), (200, .aload_n 1, 1), (201, .aload_n 0, 1), (202, .iload_n 3, 1), (203, .iconst 1, 1), (204, .iadd, 1), (205, .iaload, 1), (206, .invokevirtual 31, 3), (209, .aload_n 2, 1), (210, .aload_n 0, 1), (211, .iload_n 3, 1), (212, .iconst 1, 1), (213, .iadd, 1), (214, .iaload, 1), (215, .invokevirtual 34, 3), (218, .if_icmp .eq 486, 3), (221, .iconst 0, 1), (222, .ireturn, 1), (223, .aload_n 1, 1), (224, .aload_n 0, 1), (225, .iload_n 3, 1), (226, .iconst 1, 1), (227, .iadd, 1), (228, .iaload, 1), (229, .aload_n 0, 1), (230, .iload_n 3, 1), (231, .iconst 2, 1), (232, .iadd, 1), (233, .iaload, 1), (234, .invokevirtual 35, 3), (237, .aload_n 2, 1), (238, .aload_n 0, 1), (239, .iload_n 3, 1), (240, .iconst 1, 1), (241, .iadd, 1), (242, .iaload, 1), (243, .aload_n 0, 1), (244, .iload_n 3, 1), (245, .iconst 2, 1), (246, .iadd, 1), (247, .iaload, 1), (248, .invokevirtual 39, 3), (251, .if_icmp .eq 453, 3), (254, .iconst 0, 1), (255, .ireturn, 1), (256, .aload_n 1, 1), (257, .aload_n 0, 1), (258, .iload_n 3, 1), (259, .iconst 1, 1), (260, .iadd, 1), (261, .iaload, 1), (262, .aload_n 0, 1), (263, .iload_n 3, 1), (264, .iconst 2, 1), (265, .iadd, 1), (266, .iaload, 1), (267, .invokevirtual 40, 3), (270, .aload_n 2, 1), (271, .aload_n 0, 1), (272, .iload_n 3, 1), (273, .iconst 1, 1), (274, .iadd, 1), (275, .iaload, 1), (276, .aload_n 0, 1), (277, .iload_n 3, 1), (278, .iconst 2, 1), (279, .iadd, 1), (280, .iaload, 1), (281, .invokevirtual 44, 3), (284, .lcmp, 1), (285, .ifCond .eq 419, 3), (288, .iconst 0, 1), (289, .ireturn, 1), (290, .aload_n 1, 1), (291, .aload_n 0, 1), (292, .iload_n 3, 1), (293, .iconst 1, 1), (294, .iadd, 1), (295, .iaload, 1), (296, .invokevirtual 45, 3), (299, .aload_n 2, 1), (300, .aload_n 0, 1), (301, .iload_n 3, 1), (302, .iconst 1, 1), (303, .iadd, 1), (304, .iaload, 1), (305, .invokevirtual 49, 3), (308, .lcmp, 1), (309, .ifCond .eq 395, 3), (312, .iconst 0, 1), (313, .ireturn, 1), (314, .aload_n 1, 1), (315, .aload_n 0, 1), (316, .iload_n 3, 1), (317, .iconst 1, 1), (318, .iadd, 1), (319, .iaload, 1), (320, .invokevirtual 50, 3), (323, .aload_n 2, 1), (324, .aload_n 0, 1), (325, .iload_n 3, 1), (326, .iconst 1, 1), (327, .iadd, 1), (328, .iaload, 1), (329, .invokevirtual 53, 3), (332, .lcmp, 1), (333, .ifCond .eq 371, 3), (336, .iconst 0, 1), (337, .ireturn, 1), (338, .aload_n 1, 1), (339, .aload_n 0, 1), (340, .iload_n 3, 1), (341, .iconst 1, 1), (342, .iadd, 1), (343, .iaload, 1), (344, .aload_n 0, 1), (345, .iload_n 3, 1), (346, .iconst 2, 1), (347, .iadd, 1), (348, .iaload, 1), (349, .aload_n 0, 1), (350, .iload_n 3, 1), (351, .iconst 3, 1), (352, .iadd, 1), (353, .iaload, 1), (354, .invokevirtual 54, 3), (357, .aload_n 2, 1), (358, .aload_n 0, 1), (359, .iload_n 3, 1), (360, .iconst 1, 1), (361, .iadd, 1), (362, .iaload, 1), (363, .aload_n 0, 1), (364, .iload_n 3, 1), (365, .iconst 2, 1), (366, .iadd, 1), (367, .iaload, 1), (368, .aload_n 0, 1), (369, .iload_n 3, 1), (370, .iconst 3, 1), (371, .iadd, 1), (372, .iaload, 1), (373, .invokevirtual 58, 3), (376, .if_icmp .eq 328, 3), (379, .iconst 0, 1), (380, .ireturn, 1), (381, .aload_n 1, 1), (382, .aload_n 0, 1), (383, .iload_n 3, 1), (384, .iconst 1, 1), (385, .iadd, 1), (386, .iaload, 1), (387, .aload_n 0, 1), (388, .iload_n 3, 1), (389, .iconst 2, 1), (390, .iadd, 1), (391, .iaload, 1), (392, .invokevirtual 59, 3), (395, .aload_n 2, 1), (396, .aload_n 0, 1), (397, .iload_n 3, 1), (398, .iconst 1, 1), (399, .iadd, 1), (400, .iaload, 1), (401, .aload_n 0, 1), (402, .iload_n 3, 1), (403, .iconst 2, 1), (404, .iadd, 1), (405, .iaload, 1), (406, .invokevirtual 62, 3), (409, .if_icmp .eq 295, 3), (412, .iconst 0, 1), (413, .ireturn, 1), (414, .aload_n 1, 1), (415, .aload_n 0, 1), (416, .iload_n 3, 1), (417, .iconst 1, 1), (418, .iadd, 1), (419, .iaload, 1), (420, .invokevirtual 63, 3), (423, .aload_n 2, 1), (424, .aload_n 0, 1), (425, .iload_n 3, 1), (426, .iconst 1, 1), (427, .iadd, 1), (428, .iaload, 1), (429, .invokevirtual 66, 3), (432, .if_icmp .eq 272, 3), (435, .iconst 0, 1), (436, .ireturn, 1), (437, .aload_n 1, 1), (438, .aload_n 0, 1), (439, .iload_n 3, 1), (440, .iconst 1, 1), (441, .iadd, 1), (442, .iaload, 1), (443, .invokevirtual 67, 3), (446, .aload_n 2, 1), (447, .aload_n 0, 1), (448, .iload_n 3, 1), (449, .iconst 1, 1), (450, .iadd, 1), (451, .iaload, 1), (452, .invokevirtual 70, 3), (455, .if_icmp .eq 249, 3), (458, .iconst 0, 1), (459, .ireturn, 1), (460, .aload_n 1, 1), (461, .aload_n 0, 1), (462, .iload_n 3, 1), (463, .iconst 1, 1), (464, .iadd, 1), (465, .iaload, 1), (466, .invokevirtual 71, 3), (469, .aload_n 2, 1), (470, .aload_n 0, 1), (471, .iload_n 3, 1), (472, .iconst 1, 1), (473, .iadd, 1), (474, .iaload, 1), (475, .invokevirtual 74, 3), (478, .if_icmp .eq 226, 3), (481, .iconst 0, 1), (482, .ireturn, 1), (483, .aload_n 1, 1), (484, .aload_n 0, 1), (485, .iload_n 3, 1), (486, .iconst 1, 1), (487, .iadd, 1), (488, .iaload, 1), (489, .invokevirtual 75, 3), (492, .aload_n 2, 1), (493, .aload_n 0, 1), (494, .iload_n 3, 1), (495, .iconst 1, 1), (496, .iadd, 1), (497, .iaload, 1), (498, .invokevirtual 78, 3), (501, .lcmp, 1), (502, .ifCond .eq 202, 3), (505, .iconst 0, 1), (506, .ireturn, 1), (507, .aload_n 1, 1), (508, .aload_n 0, 1), (509, .iload_n 3, 1), (510, .iconst 1, 1), (511, .iadd, 1), (512, .iaload, 1), (513, .i2l, 1), (514, .bipush 32, 2), (516, .lshl, 1), (517, .aload_n 0, 1), (518, .iload_n 3, 1), (519, .iconst 2, 1), (520, .iadd, 1), (521, .iaload, 1), (522, .i2l, 1), (523, .ldc2_w 79, 3), (526, .land, 1), (527, .lor, 1), (528, .invokevirtual 81, 3), (531, .aload_n 2, 1), (532, .aload_n 0, 1), (533, .iload_n 3, 1), (534, .iconst 1, 1), (535, .iadd, 1), (536, .iaload, 1), (537, .i2l, 1), (538, .bipush 32, 2), (540, .lshl, 1), (541, .aload_n 0, 1), (542, .iload_n 3, 1), (543, .iconst 2, 1), (544, .iadd, 1), (545, .iaload, 1), (546, .i2l, 1), (547, .ldc2_w 79, 3), (550, .land, 1), (551, .lor, 1), (552, .invokevirtual 85, 3), (555, .if_icmp .eq 149, 3), (558, .iconst 0, 1), (559, .ireturn, 1), (560, .aload_n 1, 1), (561, .aload_n 0, 1), (562, .iload_n 3, 1), (563, .iconst 1, 1), (564, .iadd, 1), (565, .iaload, 1), (566, .i2l, 1), (567, .bipush 32, 2), (569, .lshl, 1), (570, .aload_n 0, 1), (571, .iload_n 3, 1), (572, .iconst 2, 1), (573, .iadd, 1), (574, .iaload, 1), (575, .i2l, 1), (576, .ldc2_w 79, 3), (579, .land, 1), (580, .lor, 1), (581, .aload_n 0, 1), (582, .iload_n 3, 1), (583, .iconst 3, 1), (584, .iadd, 1), (585, .iaload, 1), (586, .invokevirtual 86, 3), (589, .aload_n 2, 1), (590, .aload_n 0, 1), (591, .iload_n 3, 1), (592, .iconst 1, 1), (593, .iadd, 1), (594, .iaload, 1), (595, .i2l, 1), (596, .bipush 32, 2), (598, .lshl, 1), (599, .aload_n 0, 1), (600, .iload_n 3, 1), (601, .iconst 2, 1), (602, .iadd, 1), (603, .iaload, 1), (604, .i2l, 1), (605, .ldc2_w 79, 3), (608, .land, 1), (609, .lor, 1), (610, .aload_n 0, 1), (611, .iload_n 3, 1), (612, .iconst 3, 1), (613, .iadd, 1), (614, .iaload, 1), (615, .invokevirtual 90, 3), (618, .lcmp, 1), (619, .ifCond .eq 85, 3), (622, .iconst 0, 1), (623, .ireturn, 1), (624, .aload_n 1, 1), (625, .invokevirtual 91, 3), (628, .aload_n 2, 1), (629, .invokevirtual 94, 3), (632, .if_icmp .eq 72, 3), (635, .iconst 0, 1), (636, .ireturn, 1), (637, .aload_n 1, 1), (638, .aload_n 0, 1), (639, .iload_n 3, 1), (640, .iconst 1, 1), (641, .iadd, 1), (642, .iaload, 1), (643, .aload_n 0, 1), (644, .iload_n 3, 1), (645, .iconst 2, 1), (646, .iadd, 1), (647, .iaload, 1), (648, .invokevirtual 95, 3), (651, .aload_n 2, 1), (652, .aload_n 0, 1), (653, .iload_n 3, 1), (654, .iconst 1, 1), (655, .iadd, 1), (656, .iaload, 1), (657, .aload_n 0, 1), (658, .iload_n 3, 1), (659, .iconst 2, 1), (660, .iadd, 1), (661, .iaload, 1), (662, .invokevirtual 98, 3), (665, .lcmp, 1), (666, .ifCond .eq 38, 3), (669, .iconst 0, 1), (670, .ireturn, 1), (671, .aload_n 1, 1), (672, .aload_n 0, 1), (673, .iload_n 3, 1), (674, .iconst 1, 1), (675, .iadd, 1), (676, .iaload, 1), (677, .aload_n 0, 1), (678, .iload_n 3, 1), (679, .iconst 2, 1), (680, .iadd, 1), (681, .iaload, 1), (682, .invokevirtual 99, 3), (685, .aload_n 2, 1), (686, .aload_n 0, 1), (687, .iload_n 3, 1), (688, .iconst 1, 1), (689, .iadd, 1), (690, .iaload, 1), (691, .aload_n 0, 1), (692, .iload_n 3, 1), (693, .iconst 2, 1), (694, .iadd, 1), (695, .iaload, 1), (696, .invokevirtual 102, 3), (699, .if_icmp .eq 5, 3), (702, .iconst 0, 1), (703, .ireturn, 1), (704, .iinc 3 4, 3), (707, .goto (-689), 3), (710, .iconst 1, 1), (711, .ireturn, 1)]
set_option maxRecDepth 100000 in
theorem lsk_law : lst_law.all (fun q => decide (decode code q.1 = .ok q.2)) = true := by decide +kernel
def opI (Inv : uS → Prop) (jc jr : Nat) (As : List Value) : Prop := ∀ u, Inv u → cI 400 jc (.ref 0 :: As) u (fun r u1 => cI 400 jr (.ref 271 :: As) u1 (fun r' u2 => r' = r ∧ Inv u2))
def opL (Inv : uS → Prop) (jc jr : Nat) (As : List Value) : Prop := ∀ u, Inv u → cL 400 jc (.ref 0 :: As) u (fun r u1 => cL 400 jr (.ref 271 :: As) u1 (fun r' u2 => r' = r ∧ Inv u2))
theorem lw_icmp {pc : Nat} {o r : Int} (h : (pc : Int) + o = 704) : ev_b (.if_icmp .eq o) 3 pc [iV r, iV r] = some (704, []) := by
  simp only [ev_b, iV, ev_cond, h]
  rfl
theorem lw_lcmp {lv : ev_L} {r : Int} : ev_p 13 4 .lcmp 1 lv [lV r, lV r] = some (lv, [.int 0]) := by
  have h : lg_cmp (Int64.ofInt r) (Int64.ofInt r) = 0 := by simp [lg_cmp]
  simp only [ev_p, lV, h]
  rfl
theorem lw_ife {pc : Nat} {o : Int} (h : (pc : Int) + o = 704) : ev_b (.ifCond .eq o) 3 pc [.int 0] = some (704, []) := by
  simp only [ev_b, ev_cond, h]
  rfl
theorem lw_sw {z : Int32} {d o : Int} {os : Array Int} {len pc k t : Nat} {st : List Value} (hz : z.toInt = (k : Int)) (hk : k < 20) (ho : os[k]? = some o) (ht : (pc : Int) + o = (t : Int)) : ev_b (.tableswitch d 0 19 os) len pc (.int z :: st) = some (t, st) := by
  have h1 : ¬ (z.toInt < 0 ∨ 19 < z.toInt) := by omega
  have h2 : (z.toInt - 0).toNat = k := by omega
  simp only [ev_b, if_neg h1, h2, ho, ht]
  rw [if_pos (by omega)]
  rfl
theorem lw_sw0 {z : Int32} {d : Int} {os : Array Int} {len pc t : Nat} {st : List Value} (hz : z.toInt < 0 ∨ 19 < z.toInt) (ht : (pc : Int) + d = (t : Int)) : ev_b (.tableswitch d 0 19 os) len pc (.int z :: st) = some (t, st) := by
  simp only [ev_b, if_pos hz, ht]
  rw [if_pos (by omega)]
  rfl
section LAW
variable {G : Nat → ev_L → List Value → uS → Prop} {b0 L : Nat} {xs : Nat → Int32}
/-- ask -/
theorem law_0 (hG : lwG G b0 L xs) {Inv : uS → Prop} {x3 : Int32} {u : uS} (h1 : vp_in (x3 + Int32.ofInt 1) L) (h2 : vp_in (x3 + Int32.ofInt 2) L) (h3 : vp_in (x3 + Int32.ofInt 3) L) (hO : ∀ (x0 : Int32), opI Inv 15 202 [.int x0]) (hI : Inv u) (hE : ∀ u2, Inv u2 → G 704 [.retAddr (b0 + 1), .ref 0, .ref 271, .int x3] [] u2) : G 128 [.retAddr (b0 + 1), .ref 0, .ref 271, .int x3] [] u := by
  obtain ⟨gp, gb, gc, gl, gs, gn, ge⟩ := hG
  refine gp _ _ 128 _ _ _ _ _ (dec_at lsk_law (k := 22) rfl) rfl ?_
  refine gl 129 _ _ _ (dec_at lsk_law (k := 23) rfl) rfl ?_
  refine gp _ _ 130 _ _ _ _ _ (dec_at lsk_law (k := 24) rfl) rfl ?_
  refine gp _ _ 131 _ _ _ _ _ (dec_at lsk_law (k := 25) rfl) rfl ?_
  refine gp _ _ 132 _ _ _ _ _ (dec_at lsk_law (k := 26) rfl) rfl ?_
  refine gs 133 _ _ _ _ (dec_at lsk_law (k := 27) rfl) h1 ?_
  refine gc 13 15 1 0 0 134 _ _ _ _ _ _ u _ (dec_at lsk_law (k := 28) rfl) m_13_13 rfl (Nat.le_of_ble_eq_true rfl) sx_0 me_15 rfl (hO _ u hI) (fun v u1 hv => ?_)
  obtain ⟨r, rfl, hv⟩ := hv
  refine gp _ _ 137 _ _ _ _ _ (dec_at lsk_law (k := 29) rfl) rfl ?_
  refine gl 138 _ _ _ (dec_at lsk_law (k := 30) rfl) rfl ?_
  refine gp _ _ 139 _ _ _ _ _ (dec_at lsk_law (k := 31) rfl) rfl ?_
  refine gp _ _ 140 _ _ _ _ _ (dec_at lsk_law (k := 32) rfl) rfl ?_
  refine gp _ _ 141 _ _ _ _ _ (dec_at lsk_law (k := 33) rfl) rfl ?_
  refine gs 142 _ _ _ _ (dec_at lsk_law (k := 34) rfl) h1 ?_
  refine gc 17 202 1 271 12 143 _ _ _ _ _ _ u1 _ (dec_at lsk_law (k := 35) rfl) m_13_17 rfl (Nat.le_of_ble_eq_true rfl) sx_271 me_202 rfl hv (fun v u2 hv2 => ?_)
  obtain ⟨r', rfl, e, hI2⟩ := hv2
  rw [e]
  exact gb _ _ 146 704 _ _ _ _ (dec_at lsk_law (k := 36) rfl) (lw_icmp (by decide)) (hE u2 hI2)
/-- word -/
theorem law_1 (hG : lwG G b0 L xs) {Inv : uS → Prop} {x3 : Int32} {u : uS} (h1 : vp_in (x3 + Int32.ofInt 1) L) (h2 : vp_in (x3 + Int32.ofInt 2) L) (h3 : vp_in (x3 + Int32.ofInt 3) L) (hO : opI Inv 17 204 []) (hI : Inv u) (hE : ∀ u2, Inv u2 → G 704 [.retAddr (b0 + 1), .ref 0, .ref 271, .int x3] [] u2) : G 151 [.retAddr (b0 + 1), .ref 0, .ref 271, .int x3] [] u := by
  obtain ⟨gp, gb, gc, gl, gs, gn, ge⟩ := hG
  refine gp _ _ 151 _ _ _ _ _ (dec_at lsk_law (k := 39) rfl) rfl ?_
  refine gc 18 17 0 0 0 152 _ _ _ _ _ _ u _ (dec_at lsk_law (k := 40) rfl) m_13_18 rfl (Nat.le_of_ble_eq_true rfl) sx_0 me_17 rfl (hO u hI) (fun v u1 hv => ?_)
  obtain ⟨r, rfl, hv⟩ := hv
  refine gp _ _ 155 _ _ _ _ _ (dec_at lsk_law (k := 41) rfl) rfl ?_
  refine gc 22 204 0 271 12 156 _ _ _ _ _ _ u1 _ (dec_at lsk_law (k := 42) rfl) m_13_22 rfl (Nat.le_of_ble_eq_true rfl) sx_271 me_204 rfl hv (fun v u2 hv2 => ?_)
  obtain ⟨r', rfl, e, hI2⟩ := hv2
  rw [e]
  exact gb _ _ 159 704 _ _ _ _ (dec_at lsk_law (k := 43) rfl) (lw_icmp (by decide)) (hE u2 hI2)
/-- grammar -/
theorem law_2 (hG : lwG G b0 L xs) {Inv : uS → Prop} {x3 : Int32} {u : uS} (h1 : vp_in (x3 + Int32.ofInt 1) L) (h2 : vp_in (x3 + Int32.ofInt 2) L) (h3 : vp_in (x3 + Int32.ofInt 3) L) (hO : opI Inv 27 206 []) (hI : Inv u) (hE : ∀ u2, Inv u2 → G 704 [.retAddr (b0 + 1), .ref 0, .ref 271, .int x3] [] u2) : G 164 [.retAddr (b0 + 1), .ref 0, .ref 271, .int x3] [] u := by
  obtain ⟨gp, gb, gc, gl, gs, gn, ge⟩ := hG
  refine gp _ _ 164 _ _ _ _ _ (dec_at lsk_law (k := 46) rfl) rfl ?_
  refine gc 23 27 0 0 0 165 _ _ _ _ _ _ u _ (dec_at lsk_law (k := 47) rfl) m_13_23 rfl (Nat.le_of_ble_eq_true rfl) sx_0 me_27 rfl (hO u hI) (fun v u1 hv => ?_)
  obtain ⟨r, rfl, hv⟩ := hv
  refine gp _ _ 168 _ _ _ _ _ (dec_at lsk_law (k := 48) rfl) rfl ?_
  refine gc 26 206 0 271 12 169 _ _ _ _ _ _ u1 _ (dec_at lsk_law (k := 49) rfl) m_13_26 rfl (Nat.le_of_ble_eq_true rfl) sx_271 me_206 rfl hv (fun v u2 hv2 => ?_)
  obtain ⟨r', rfl, e, hI2⟩ := hv2
  rw [e]
  exact gb _ _ 172 704 _ _ _ _ (dec_at lsk_law (k := 50) rfl) (lw_icmp (by decide)) (hE u2 hI2)
/-- expression -/
theorem law_3 (hG : lwG G b0 L xs) {Inv : uS → Prop} {x3 : Int32} {u : uS} (h1 : vp_in (x3 + Int32.ofInt 1) L) (h2 : vp_in (x3 + Int32.ofInt 2) L) (h3 : vp_in (x3 + Int32.ofInt 3) L) (hO : ∀ (x0 : Int32), opI Inv 62 235 [.int x0]) (hI : Inv u) (hE : ∀ u2, Inv u2 → G 704 [.retAddr (b0 + 1), .ref 0, .ref 271, .int x3] [] u2) : G 177 [.retAddr (b0 + 1), .ref 0, .ref 271, .int x3] [] u := by
  obtain ⟨gp, gb, gc, gl, gs, gn, ge⟩ := hG
  refine gp _ _ 177 _ _ _ _ _ (dec_at lsk_law (k := 53) rfl) rfl ?_
  refine gl 178 _ _ _ (dec_at lsk_law (k := 54) rfl) rfl ?_
  refine gp _ _ 179 _ _ _ _ _ (dec_at lsk_law (k := 55) rfl) rfl ?_
  refine gp _ _ 180 _ _ _ _ _ (dec_at lsk_law (k := 56) rfl) rfl ?_
  refine gp _ _ 181 _ _ _ _ _ (dec_at lsk_law (k := 57) rfl) rfl ?_
  refine gs 182 _ _ _ _ (dec_at lsk_law (k := 58) rfl) h1 ?_
  refine gc 27 62 1 0 0 183 _ _ _ _ _ _ u _ (dec_at lsk_law (k := 59) rfl) m_13_27 rfl (Nat.le_of_ble_eq_true rfl) sx_0 me_62 rfl (hO _ u hI) (fun v u1 hv => ?_)
  obtain ⟨r, rfl, hv⟩ := hv
  refine gp _ _ 186 _ _ _ _ _ (dec_at lsk_law (k := 60) rfl) rfl ?_
  refine gl 187 _ _ _ (dec_at lsk_law (k := 61) rfl) rfl ?_
  refine gp _ _ 188 _ _ _ _ _ (dec_at lsk_law (k := 62) rfl) rfl ?_
  refine gp _ _ 189 _ _ _ _ _ (dec_at lsk_law (k := 63) rfl) rfl ?_
  refine gp _ _ 190 _ _ _ _ _ (dec_at lsk_law (k := 64) rfl) rfl ?_
  refine gs 191 _ _ _ _ (dec_at lsk_law (k := 65) rfl) h1 ?_
  refine gc 30 235 1 271 12 192 _ _ _ _ _ _ u1 _ (dec_at lsk_law (k := 66) rfl) m_13_30 rfl (Nat.le_of_ble_eq_true rfl) sx_271 me_235 rfl hv (fun v u2 hv2 => ?_)
  obtain ⟨r', rfl, e, hI2⟩ := hv2
  rw [e]
  exact gb _ _ 195 704 _ _ _ _ (dec_at lsk_law (k := 67) rfl) (lw_icmp (by decide)) (hE u2 hI2)
/-- count -/
theorem law_4 (hG : lwG G b0 L xs) {Inv : uS → Prop} {x3 : Int32} {u : uS} (h1 : vp_in (x3 + Int32.ofInt 1) L) (h2 : vp_in (x3 + Int32.ofInt 2) L) (h3 : vp_in (x3 + Int32.ofInt 3) L) (hO : ∀ (x0 : Int32), opI Inv 98 220 [.int x0]) (hI : Inv u) (hE : ∀ u2, Inv u2 → G 704 [.retAddr (b0 + 1), .ref 0, .ref 271, .int x3] [] u2) : G 200 [.retAddr (b0 + 1), .ref 0, .ref 271, .int x3] [] u := by
  obtain ⟨gp, gb, gc, gl, gs, gn, ge⟩ := hG
  refine gp _ _ 200 _ _ _ _ _ (dec_at lsk_law (k := 70) rfl) rfl ?_
  refine gl 201 _ _ _ (dec_at lsk_law (k := 71) rfl) rfl ?_
  refine gp _ _ 202 _ _ _ _ _ (dec_at lsk_law (k := 72) rfl) rfl ?_
  refine gp _ _ 203 _ _ _ _ _ (dec_at lsk_law (k := 73) rfl) rfl ?_
  refine gp _ _ 204 _ _ _ _ _ (dec_at lsk_law (k := 74) rfl) rfl ?_
  refine gs 205 _ _ _ _ (dec_at lsk_law (k := 75) rfl) h1 ?_
  refine gc 31 98 1 0 0 206 _ _ _ _ _ _ u _ (dec_at lsk_law (k := 76) rfl) m_13_31 rfl (Nat.le_of_ble_eq_true rfl) sx_0 me_98 rfl (hO _ u hI) (fun v u1 hv => ?_)
  obtain ⟨r, rfl, hv⟩ := hv
  refine gp _ _ 209 _ _ _ _ _ (dec_at lsk_law (k := 77) rfl) rfl ?_
  refine gl 210 _ _ _ (dec_at lsk_law (k := 78) rfl) rfl ?_
  refine gp _ _ 211 _ _ _ _ _ (dec_at lsk_law (k := 79) rfl) rfl ?_
  refine gp _ _ 212 _ _ _ _ _ (dec_at lsk_law (k := 80) rfl) rfl ?_
  refine gp _ _ 213 _ _ _ _ _ (dec_at lsk_law (k := 81) rfl) rfl ?_
  refine gs 214 _ _ _ _ (dec_at lsk_law (k := 82) rfl) h1 ?_
  refine gc 34 220 1 271 12 215 _ _ _ _ _ _ u1 _ (dec_at lsk_law (k := 83) rfl) m_13_34 rfl (Nat.le_of_ble_eq_true rfl) sx_271 me_220 rfl hv (fun v u2 hv2 => ?_)
  obtain ⟨r', rfl, e, hI2⟩ := hv2
  rw [e]
  exact gb _ _ 218 704 _ _ _ _ (dec_at lsk_law (k := 84) rfl) (lw_icmp (by decide)) (hE u2 hI2)
/-- rule -/
theorem law_5 (hG : lwG G b0 L xs) {Inv : uS → Prop} {x3 : Int32} {u : uS} (h1 : vp_in (x3 + Int32.ofInt 1) L) (h2 : vp_in (x3 + Int32.ofInt 2) L) (h3 : vp_in (x3 + Int32.ofInt 3) L) (hO : ∀ (x0 : Int32) (x1 : Int32), opI Inv 99 221 [.int x0, .int x1]) (hI : Inv u) (hE : ∀ u2, Inv u2 → G 704 [.retAddr (b0 + 1), .ref 0, .ref 271, .int x3] [] u2) : G 223 [.retAddr (b0 + 1), .ref 0, .ref 271, .int x3] [] u := by
  obtain ⟨gp, gb, gc, gl, gs, gn, ge⟩ := hG
  refine gp _ _ 223 _ _ _ _ _ (dec_at lsk_law (k := 87) rfl) rfl ?_
  refine gl 224 _ _ _ (dec_at lsk_law (k := 88) rfl) rfl ?_
  refine gp _ _ 225 _ _ _ _ _ (dec_at lsk_law (k := 89) rfl) rfl ?_
  refine gp _ _ 226 _ _ _ _ _ (dec_at lsk_law (k := 90) rfl) rfl ?_
  refine gp _ _ 227 _ _ _ _ _ (dec_at lsk_law (k := 91) rfl) rfl ?_
  refine gs 228 _ _ _ _ (dec_at lsk_law (k := 92) rfl) h1 ?_
  refine gl 229 _ _ _ (dec_at lsk_law (k := 93) rfl) rfl ?_
  refine gp _ _ 230 _ _ _ _ _ (dec_at lsk_law (k := 94) rfl) rfl ?_
  refine gp _ _ 231 _ _ _ _ _ (dec_at lsk_law (k := 95) rfl) rfl ?_
  refine gp _ _ 232 _ _ _ _ _ (dec_at lsk_law (k := 96) rfl) rfl ?_
  refine gs 233 _ _ _ _ (dec_at lsk_law (k := 97) rfl) h2 ?_
  refine gc 35 99 2 0 0 234 _ _ _ _ _ _ u _ (dec_at lsk_law (k := 98) rfl) m_13_35 rfl (Nat.le_of_ble_eq_true rfl) sx_0 me_99 rfl (hO _ _ u hI) (fun v u1 hv => ?_)
  obtain ⟨r, rfl, hv⟩ := hv
  refine gp _ _ 237 _ _ _ _ _ (dec_at lsk_law (k := 99) rfl) rfl ?_
  refine gl 238 _ _ _ (dec_at lsk_law (k := 100) rfl) rfl ?_
  refine gp _ _ 239 _ _ _ _ _ (dec_at lsk_law (k := 101) rfl) rfl ?_
  refine gp _ _ 240 _ _ _ _ _ (dec_at lsk_law (k := 102) rfl) rfl ?_
  refine gp _ _ 241 _ _ _ _ _ (dec_at lsk_law (k := 103) rfl) rfl ?_
  refine gs 242 _ _ _ _ (dec_at lsk_law (k := 104) rfl) h1 ?_
  refine gl 243 _ _ _ (dec_at lsk_law (k := 105) rfl) rfl ?_
  refine gp _ _ 244 _ _ _ _ _ (dec_at lsk_law (k := 106) rfl) rfl ?_
  refine gp _ _ 245 _ _ _ _ _ (dec_at lsk_law (k := 107) rfl) rfl ?_
  refine gp _ _ 246 _ _ _ _ _ (dec_at lsk_law (k := 108) rfl) rfl ?_
  refine gs 247 _ _ _ _ (dec_at lsk_law (k := 109) rfl) h2 ?_
  refine gc 39 221 2 271 12 248 _ _ _ _ _ _ u1 _ (dec_at lsk_law (k := 110) rfl) m_13_39 rfl (Nat.le_of_ble_eq_true rfl) sx_271 me_221 rfl hv (fun v u2 hv2 => ?_)
  obtain ⟨r', rfl, e, hI2⟩ := hv2
  rw [e]
  exact gb _ _ 251 704 _ _ _ _ (dec_at lsk_law (k := 111) rfl) (lw_icmp (by decide)) (hE u2 hI2)
/-- variable -/
theorem law_6 (hG : lwG G b0 L xs) {Inv : uS → Prop} {x3 : Int32} {u : uS} (h1 : vp_in (x3 + Int32.ofInt 1) L) (h2 : vp_in (x3 + Int32.ofInt 2) L) (h3 : vp_in (x3 + Int32.ofInt 3) L) (hO : ∀ (x0 : Int32) (x1 : Int32), opL Inv 100 222 [.int x0, .int x1]) (hI : Inv u) (hE : ∀ u2, Inv u2 → G 704 [.retAddr (b0 + 1), .ref 0, .ref 271, .int x3] [] u2) : G 256 [.retAddr (b0 + 1), .ref 0, .ref 271, .int x3] [] u := by
  obtain ⟨gp, gb, gc, gl, gs, gn, ge⟩ := hG
  refine gp _ _ 256 _ _ _ _ _ (dec_at lsk_law (k := 114) rfl) rfl ?_
  refine gl 257 _ _ _ (dec_at lsk_law (k := 115) rfl) rfl ?_
  refine gp _ _ 258 _ _ _ _ _ (dec_at lsk_law (k := 116) rfl) rfl ?_
  refine gp _ _ 259 _ _ _ _ _ (dec_at lsk_law (k := 117) rfl) rfl ?_
  refine gp _ _ 260 _ _ _ _ _ (dec_at lsk_law (k := 118) rfl) rfl ?_
  refine gs 261 _ _ _ _ (dec_at lsk_law (k := 119) rfl) h1 ?_
  refine gl 262 _ _ _ (dec_at lsk_law (k := 120) rfl) rfl ?_
  refine gp _ _ 263 _ _ _ _ _ (dec_at lsk_law (k := 121) rfl) rfl ?_
  refine gp _ _ 264 _ _ _ _ _ (dec_at lsk_law (k := 122) rfl) rfl ?_
  refine gp _ _ 265 _ _ _ _ _ (dec_at lsk_law (k := 123) rfl) rfl ?_
  refine gs 266 _ _ _ _ (dec_at lsk_law (k := 124) rfl) h2 ?_
  refine gc 40 100 2 0 0 267 _ _ _ _ _ _ u _ (dec_at lsk_law (k := 125) rfl) m_13_40 rfl (Nat.le_of_ble_eq_true rfl) sx_0 me_100 rfl (hO _ _ u hI) (fun v u1 hv => ?_)
  obtain ⟨r, rfl, hv⟩ := hv
  refine gp _ _ 270 _ _ _ _ _ (dec_at lsk_law (k := 126) rfl) rfl ?_
  refine gl 271 _ _ _ (dec_at lsk_law (k := 127) rfl) rfl ?_
  refine gp _ _ 272 _ _ _ _ _ (dec_at lsk_law (k := 128) rfl) rfl ?_
  refine gp _ _ 273 _ _ _ _ _ (dec_at lsk_law (k := 129) rfl) rfl ?_
  refine gp _ _ 274 _ _ _ _ _ (dec_at lsk_law (k := 130) rfl) rfl ?_
  refine gs 275 _ _ _ _ (dec_at lsk_law (k := 131) rfl) h1 ?_
  refine gl 276 _ _ _ (dec_at lsk_law (k := 132) rfl) rfl ?_
  refine gp _ _ 277 _ _ _ _ _ (dec_at lsk_law (k := 133) rfl) rfl ?_
  refine gp _ _ 278 _ _ _ _ _ (dec_at lsk_law (k := 134) rfl) rfl ?_
  refine gp _ _ 279 _ _ _ _ _ (dec_at lsk_law (k := 135) rfl) rfl ?_
  refine gs 280 _ _ _ _ (dec_at lsk_law (k := 136) rfl) h2 ?_
  refine gc 44 222 2 271 12 281 _ _ _ _ _ _ u1 _ (dec_at lsk_law (k := 137) rfl) m_13_44 rfl (Nat.le_of_ble_eq_true rfl) sx_271 me_222 rfl hv (fun v u2 hv2 => ?_)
  obtain ⟨r', rfl, e, hI2⟩ := hv2
  rw [e]
  refine gp _ _ 284 _ _ _ _ _ (dec_at lsk_law (k := 138) rfl) lw_lcmp ?_
  exact gb _ _ 285 704 _ _ _ _ (dec_at lsk_law (k := 139) rfl) (lw_ife (by decide)) (hE u2 hI2)
/-- trees -/
theorem law_7 (hG : lwG G b0 L xs) {Inv : uS → Prop} {x3 : Int32} {u : uS} (h1 : vp_in (x3 + Int32.ofInt 1) L) (h2 : vp_in (x3 + Int32.ofInt 2) L) (h3 : vp_in (x3 + Int32.ofInt 3) L) (hO : ∀ (x0 : Int32), opL Inv 102 223 [.int x0]) (hI : Inv u) (hE : ∀ u2, Inv u2 → G 704 [.retAddr (b0 + 1), .ref 0, .ref 271, .int x3] [] u2) : G 290 [.retAddr (b0 + 1), .ref 0, .ref 271, .int x3] [] u := by
  obtain ⟨gp, gb, gc, gl, gs, gn, ge⟩ := hG
  refine gp _ _ 290 _ _ _ _ _ (dec_at lsk_law (k := 142) rfl) rfl ?_
  refine gl 291 _ _ _ (dec_at lsk_law (k := 143) rfl) rfl ?_
  refine gp _ _ 292 _ _ _ _ _ (dec_at lsk_law (k := 144) rfl) rfl ?_
  refine gp _ _ 293 _ _ _ _ _ (dec_at lsk_law (k := 145) rfl) rfl ?_
  refine gp _ _ 294 _ _ _ _ _ (dec_at lsk_law (k := 146) rfl) rfl ?_
  refine gs 295 _ _ _ _ (dec_at lsk_law (k := 147) rfl) h1 ?_
  refine gc 45 102 1 0 0 296 _ _ _ _ _ _ u _ (dec_at lsk_law (k := 148) rfl) m_13_45 rfl (Nat.le_of_ble_eq_true rfl) sx_0 me_102 rfl (hO _ u hI) (fun v u1 hv => ?_)
  obtain ⟨r, rfl, hv⟩ := hv
  refine gp _ _ 299 _ _ _ _ _ (dec_at lsk_law (k := 149) rfl) rfl ?_
  refine gl 300 _ _ _ (dec_at lsk_law (k := 150) rfl) rfl ?_
  refine gp _ _ 301 _ _ _ _ _ (dec_at lsk_law (k := 151) rfl) rfl ?_
  refine gp _ _ 302 _ _ _ _ _ (dec_at lsk_law (k := 152) rfl) rfl ?_
  refine gp _ _ 303 _ _ _ _ _ (dec_at lsk_law (k := 153) rfl) rfl ?_
  refine gs 304 _ _ _ _ (dec_at lsk_law (k := 154) rfl) h1 ?_
  refine gc 49 223 1 271 12 305 _ _ _ _ _ _ u1 _ (dec_at lsk_law (k := 155) rfl) m_13_49 rfl (Nat.le_of_ble_eq_true rfl) sx_271 me_223 rfl hv (fun v u2 hv2 => ?_)
  obtain ⟨r', rfl, e, hI2⟩ := hv2
  rw [e]
  refine gp _ _ 308 _ _ _ _ _ (dec_at lsk_law (k := 156) rfl) lw_lcmp ?_
  exact gb _ _ 309 704 _ _ _ _ (dec_at lsk_law (k := 157) rfl) (lw_ife (by decide)) (hE u2 hI2)
/-- treesOf -/
theorem law_8 (hG : lwG G b0 L xs) {Inv : uS → Prop} {x3 : Int32} {u : uS} (h1 : vp_in (x3 + Int32.ofInt 1) L) (h2 : vp_in (x3 + Int32.ofInt 2) L) (h3 : vp_in (x3 + Int32.ofInt 3) L) (hO : ∀ (x0 : Int32), opL Inv 124 234 [.int x0]) (hI : Inv u) (hE : ∀ u2, Inv u2 → G 704 [.retAddr (b0 + 1), .ref 0, .ref 271, .int x3] [] u2) : G 314 [.retAddr (b0 + 1), .ref 0, .ref 271, .int x3] [] u := by
  obtain ⟨gp, gb, gc, gl, gs, gn, ge⟩ := hG
  refine gp _ _ 314 _ _ _ _ _ (dec_at lsk_law (k := 160) rfl) rfl ?_
  refine gl 315 _ _ _ (dec_at lsk_law (k := 161) rfl) rfl ?_
  refine gp _ _ 316 _ _ _ _ _ (dec_at lsk_law (k := 162) rfl) rfl ?_
  refine gp _ _ 317 _ _ _ _ _ (dec_at lsk_law (k := 163) rfl) rfl ?_
  refine gp _ _ 318 _ _ _ _ _ (dec_at lsk_law (k := 164) rfl) rfl ?_
  refine gs 319 _ _ _ _ (dec_at lsk_law (k := 165) rfl) h1 ?_
  refine gc 50 124 1 0 0 320 _ _ _ _ _ _ u _ (dec_at lsk_law (k := 166) rfl) m_13_50 rfl (Nat.le_of_ble_eq_true rfl) sx_0 me_124 rfl (hO _ u hI) (fun v u1 hv => ?_)
  obtain ⟨r, rfl, hv⟩ := hv
  refine gp _ _ 323 _ _ _ _ _ (dec_at lsk_law (k := 167) rfl) rfl ?_
  refine gl 324 _ _ _ (dec_at lsk_law (k := 168) rfl) rfl ?_
  refine gp _ _ 325 _ _ _ _ _ (dec_at lsk_law (k := 169) rfl) rfl ?_
  refine gp _ _ 326 _ _ _ _ _ (dec_at lsk_law (k := 170) rfl) rfl ?_
  refine gp _ _ 327 _ _ _ _ _ (dec_at lsk_law (k := 171) rfl) rfl ?_
  refine gs 328 _ _ _ _ (dec_at lsk_law (k := 172) rfl) h1 ?_
  refine gc 53 234 1 271 12 329 _ _ _ _ _ _ u1 _ (dec_at lsk_law (k := 173) rfl) m_13_53 rfl (Nat.le_of_ble_eq_true rfl) sx_271 me_234 rfl hv (fun v u2 hv2 => ?_)
  obtain ⟨r', rfl, e, hI2⟩ := hv2
  rw [e]
  refine gp _ _ 332 _ _ _ _ _ (dec_at lsk_law (k := 174) rfl) lw_lcmp ?_
  exact gb _ _ 333 704 _ _ _ _ (dec_at lsk_law (k := 175) rfl) (lw_ife (by decide)) (hE u2 hI2)
/-- next -/
theorem law_9 (hG : lwG G b0 L xs) {Inv : uS → Prop} {x3 : Int32} {u : uS} (h1 : vp_in (x3 + Int32.ofInt 1) L) (h2 : vp_in (x3 + Int32.ofInt 2) L) (h3 : vp_in (x3 + Int32.ofInt 3) L) (hO : ∀ (x0 : Int32) (x1 : Int32) (x2 : Int32), opI Inv 127 262 [.int x0, .int x1, .int x2]) (hI : Inv u) (hE : ∀ u2, Inv u2 → G 704 [.retAddr (b0 + 1), .ref 0, .ref 271, .int x3] [] u2) : G 338 [.retAddr (b0 + 1), .ref 0, .ref 271, .int x3] [] u := by
  obtain ⟨gp, gb, gc, gl, gs, gn, ge⟩ := hG
  refine gp _ _ 338 _ _ _ _ _ (dec_at lsk_law (k := 178) rfl) rfl ?_
  refine gl 339 _ _ _ (dec_at lsk_law (k := 179) rfl) rfl ?_
  refine gp _ _ 340 _ _ _ _ _ (dec_at lsk_law (k := 180) rfl) rfl ?_
  refine gp _ _ 341 _ _ _ _ _ (dec_at lsk_law (k := 181) rfl) rfl ?_
  refine gp _ _ 342 _ _ _ _ _ (dec_at lsk_law (k := 182) rfl) rfl ?_
  refine gs 343 _ _ _ _ (dec_at lsk_law (k := 183) rfl) h1 ?_
  refine gl 344 _ _ _ (dec_at lsk_law (k := 184) rfl) rfl ?_
  refine gp _ _ 345 _ _ _ _ _ (dec_at lsk_law (k := 185) rfl) rfl ?_
  refine gp _ _ 346 _ _ _ _ _ (dec_at lsk_law (k := 186) rfl) rfl ?_
  refine gp _ _ 347 _ _ _ _ _ (dec_at lsk_law (k := 187) rfl) rfl ?_
  refine gs 348 _ _ _ _ (dec_at lsk_law (k := 188) rfl) h2 ?_
  refine gl 349 _ _ _ (dec_at lsk_law (k := 189) rfl) rfl ?_
  refine gp _ _ 350 _ _ _ _ _ (dec_at lsk_law (k := 190) rfl) rfl ?_
  refine gp _ _ 351 _ _ _ _ _ (dec_at lsk_law (k := 191) rfl) rfl ?_
  refine gp _ _ 352 _ _ _ _ _ (dec_at lsk_law (k := 192) rfl) rfl ?_
  refine gs 353 _ _ _ _ (dec_at lsk_law (k := 193) rfl) h3 ?_
  refine gc 54 127 3 0 0 354 _ _ _ _ _ _ u _ (dec_at lsk_law (k := 194) rfl) m_13_54 rfl (Nat.le_of_ble_eq_true rfl) sx_0 me_127 rfl (hO _ _ _ u hI) (fun v u1 hv => ?_)
  obtain ⟨r, rfl, hv⟩ := hv
  refine gp _ _ 357 _ _ _ _ _ (dec_at lsk_law (k := 195) rfl) rfl ?_
  refine gl 358 _ _ _ (dec_at lsk_law (k := 196) rfl) rfl ?_
  refine gp _ _ 359 _ _ _ _ _ (dec_at lsk_law (k := 197) rfl) rfl ?_
  refine gp _ _ 360 _ _ _ _ _ (dec_at lsk_law (k := 198) rfl) rfl ?_
  refine gp _ _ 361 _ _ _ _ _ (dec_at lsk_law (k := 199) rfl) rfl ?_
  refine gs 362 _ _ _ _ (dec_at lsk_law (k := 200) rfl) h1 ?_
  refine gl 363 _ _ _ (dec_at lsk_law (k := 201) rfl) rfl ?_
  refine gp _ _ 364 _ _ _ _ _ (dec_at lsk_law (k := 202) rfl) rfl ?_
  refine gp _ _ 365 _ _ _ _ _ (dec_at lsk_law (k := 203) rfl) rfl ?_
  refine gp _ _ 366 _ _ _ _ _ (dec_at lsk_law (k := 204) rfl) rfl ?_
  refine gs 367 _ _ _ _ (dec_at lsk_law (k := 205) rfl) h2 ?_
  refine gl 368 _ _ _ (dec_at lsk_law (k := 206) rfl) rfl ?_
  refine gp _ _ 369 _ _ _ _ _ (dec_at lsk_law (k := 207) rfl) rfl ?_
  refine gp _ _ 370 _ _ _ _ _ (dec_at lsk_law (k := 208) rfl) rfl ?_
  refine gp _ _ 371 _ _ _ _ _ (dec_at lsk_law (k := 209) rfl) rfl ?_
  refine gs 372 _ _ _ _ (dec_at lsk_law (k := 210) rfl) h3 ?_
  refine gc 58 262 3 271 12 373 _ _ _ _ _ _ u1 _ (dec_at lsk_law (k := 211) rfl) m_13_58 rfl (Nat.le_of_ble_eq_true rfl) sx_271 me_262 rfl hv (fun v u2 hv2 => ?_)
  obtain ⟨r', rfl, e, hI2⟩ := hv2
  rw [e]
  exact gb _ _ 376 704 _ _ _ _ (dec_at lsk_law (k := 212) rfl) (lw_icmp (by decide)) (hE u2 hI2)
/-- isLast -/
theorem law_10 (hG : lwG G b0 L xs) {Inv : uS → Prop} {x3 : Int32} {u : uS} (h1 : vp_in (x3 + Int32.ofInt 1) L) (h2 : vp_in (x3 + Int32.ofInt 2) L) (h3 : vp_in (x3 + Int32.ofInt 3) L) (hO : ∀ (x0 : Int32) (x1 : Int32), opI Inv 129 263 [.int x0, .int x1]) (hI : Inv u) (hE : ∀ u2, Inv u2 → G 704 [.retAddr (b0 + 1), .ref 0, .ref 271, .int x3] [] u2) : G 381 [.retAddr (b0 + 1), .ref 0, .ref 271, .int x3] [] u := by
  obtain ⟨gp, gb, gc, gl, gs, gn, ge⟩ := hG
  refine gp _ _ 381 _ _ _ _ _ (dec_at lsk_law (k := 215) rfl) rfl ?_
  refine gl 382 _ _ _ (dec_at lsk_law (k := 216) rfl) rfl ?_
  refine gp _ _ 383 _ _ _ _ _ (dec_at lsk_law (k := 217) rfl) rfl ?_
  refine gp _ _ 384 _ _ _ _ _ (dec_at lsk_law (k := 218) rfl) rfl ?_
  refine gp _ _ 385 _ _ _ _ _ (dec_at lsk_law (k := 219) rfl) rfl ?_
  refine gs 386 _ _ _ _ (dec_at lsk_law (k := 220) rfl) h1 ?_
  refine gl 387 _ _ _ (dec_at lsk_law (k := 221) rfl) rfl ?_
  refine gp _ _ 388 _ _ _ _ _ (dec_at lsk_law (k := 222) rfl) rfl ?_
  refine gp _ _ 389 _ _ _ _ _ (dec_at lsk_law (k := 223) rfl) rfl ?_
  refine gp _ _ 390 _ _ _ _ _ (dec_at lsk_law (k := 224) rfl) rfl ?_
  refine gs 391 _ _ _ _ (dec_at lsk_law (k := 225) rfl) h2 ?_
  refine gc 59 129 2 0 0 392 _ _ _ _ _ _ u _ (dec_at lsk_law (k := 226) rfl) m_13_59 rfl (Nat.le_of_ble_eq_true rfl) sx_0 me_129 rfl (hO _ _ u hI) (fun v u1 hv => ?_)
  obtain ⟨r, rfl, hv⟩ := hv
  refine gp _ _ 395 _ _ _ _ _ (dec_at lsk_law (k := 227) rfl) rfl ?_
  refine gl 396 _ _ _ (dec_at lsk_law (k := 228) rfl) rfl ?_
  refine gp _ _ 397 _ _ _ _ _ (dec_at lsk_law (k := 229) rfl) rfl ?_
  refine gp _ _ 398 _ _ _ _ _ (dec_at lsk_law (k := 230) rfl) rfl ?_
  refine gp _ _ 399 _ _ _ _ _ (dec_at lsk_law (k := 231) rfl) rfl ?_
  refine gs 400 _ _ _ _ (dec_at lsk_law (k := 232) rfl) h1 ?_
  refine gl 401 _ _ _ (dec_at lsk_law (k := 233) rfl) rfl ?_
  refine gp _ _ 402 _ _ _ _ _ (dec_at lsk_law (k := 234) rfl) rfl ?_
  refine gp _ _ 403 _ _ _ _ _ (dec_at lsk_law (k := 235) rfl) rfl ?_
  refine gp _ _ 404 _ _ _ _ _ (dec_at lsk_law (k := 236) rfl) rfl ?_
  refine gs 405 _ _ _ _ (dec_at lsk_law (k := 237) rfl) h2 ?_
  refine gc 62 263 2 271 12 406 _ _ _ _ _ _ u1 _ (dec_at lsk_law (k := 238) rfl) m_13_62 rfl (Nat.le_of_ble_eq_true rfl) sx_271 me_263 rfl hv (fun v u2 hv2 => ?_)
  obtain ⟨r', rfl, e, hI2⟩ := hv2
  rw [e]
  exact gb _ _ 409 704 _ _ _ _ (dec_at lsk_law (k := 239) rfl) (lw_icmp (by decide)) (hE u2 hI2)
/-- has -/
theorem law_11 (hG : lwG G b0 L xs) {Inv : uS → Prop} {x3 : Int32} {u : uS} (h1 : vp_in (x3 + Int32.ofInt 1) L) (h2 : vp_in (x3 + Int32.ofInt 2) L) (h3 : vp_in (x3 + Int32.ofInt 3) L) (hO : ∀ (x0 : Int32), opI Inv 130 264 [.int x0]) (hI : Inv u) (hE : ∀ u2, Inv u2 → G 704 [.retAddr (b0 + 1), .ref 0, .ref 271, .int x3] [] u2) : G 414 [.retAddr (b0 + 1), .ref 0, .ref 271, .int x3] [] u := by
  obtain ⟨gp, gb, gc, gl, gs, gn, ge⟩ := hG
  refine gp _ _ 414 _ _ _ _ _ (dec_at lsk_law (k := 242) rfl) rfl ?_
  refine gl 415 _ _ _ (dec_at lsk_law (k := 243) rfl) rfl ?_
  refine gp _ _ 416 _ _ _ _ _ (dec_at lsk_law (k := 244) rfl) rfl ?_
  refine gp _ _ 417 _ _ _ _ _ (dec_at lsk_law (k := 245) rfl) rfl ?_
  refine gp _ _ 418 _ _ _ _ _ (dec_at lsk_law (k := 246) rfl) rfl ?_
  refine gs 419 _ _ _ _ (dec_at lsk_law (k := 247) rfl) h1 ?_
  refine gc 63 130 1 0 0 420 _ _ _ _ _ _ u _ (dec_at lsk_law (k := 248) rfl) m_13_63 rfl (Nat.le_of_ble_eq_true rfl) sx_0 me_130 rfl (hO _ u hI) (fun v u1 hv => ?_)
  obtain ⟨r, rfl, hv⟩ := hv
  refine gp _ _ 423 _ _ _ _ _ (dec_at lsk_law (k := 249) rfl) rfl ?_
  refine gl 424 _ _ _ (dec_at lsk_law (k := 250) rfl) rfl ?_
  refine gp _ _ 425 _ _ _ _ _ (dec_at lsk_law (k := 251) rfl) rfl ?_
  refine gp _ _ 426 _ _ _ _ _ (dec_at lsk_law (k := 252) rfl) rfl ?_
  refine gp _ _ 427 _ _ _ _ _ (dec_at lsk_law (k := 253) rfl) rfl ?_
  refine gs 428 _ _ _ _ (dec_at lsk_law (k := 254) rfl) h1 ?_
  refine gc 66 264 1 271 12 429 _ _ _ _ _ _ u1 _ (dec_at lsk_law (k := 255) rfl) m_13_66 rfl (Nat.le_of_ble_eq_true rfl) sx_271 me_264 rfl hv (fun v u2 hv2 => ?_)
  obtain ⟨r', rfl, e, hI2⟩ := hv2
  rw [e]
  exact gb _ _ 432 704 _ _ _ _ (dec_at lsk_law (k := 256) rfl) (lw_icmp (by decide)) (hE u2 hI2)
/-- apart -/
theorem law_12 (hG : lwG G b0 L xs) {Inv : uS → Prop} {x3 : Int32} {u : uS} (h1 : vp_in (x3 + Int32.ofInt 1) L) (h2 : vp_in (x3 + Int32.ofInt 2) L) (h3 : vp_in (x3 + Int32.ofInt 3) L) (hO : ∀ (x0 : Int32), opI Inv 131 265 [.int x0]) (hI : Inv u) (hE : ∀ u2, Inv u2 → G 704 [.retAddr (b0 + 1), .ref 0, .ref 271, .int x3] [] u2) : G 437 [.retAddr (b0 + 1), .ref 0, .ref 271, .int x3] [] u := by
  obtain ⟨gp, gb, gc, gl, gs, gn, ge⟩ := hG
  refine gp _ _ 437 _ _ _ _ _ (dec_at lsk_law (k := 259) rfl) rfl ?_
  refine gl 438 _ _ _ (dec_at lsk_law (k := 260) rfl) rfl ?_
  refine gp _ _ 439 _ _ _ _ _ (dec_at lsk_law (k := 261) rfl) rfl ?_
  refine gp _ _ 440 _ _ _ _ _ (dec_at lsk_law (k := 262) rfl) rfl ?_
  refine gp _ _ 441 _ _ _ _ _ (dec_at lsk_law (k := 263) rfl) rfl ?_
  refine gs 442 _ _ _ _ (dec_at lsk_law (k := 264) rfl) h1 ?_
  refine gc 67 131 1 0 0 443 _ _ _ _ _ _ u _ (dec_at lsk_law (k := 265) rfl) m_13_67 rfl (Nat.le_of_ble_eq_true rfl) sx_0 me_131 rfl (hO _ u hI) (fun v u1 hv => ?_)
  obtain ⟨r, rfl, hv⟩ := hv
  refine gp _ _ 446 _ _ _ _ _ (dec_at lsk_law (k := 266) rfl) rfl ?_
  refine gl 447 _ _ _ (dec_at lsk_law (k := 267) rfl) rfl ?_
  refine gp _ _ 448 _ _ _ _ _ (dec_at lsk_law (k := 268) rfl) rfl ?_
  refine gp _ _ 449 _ _ _ _ _ (dec_at lsk_law (k := 269) rfl) rfl ?_
  refine gp _ _ 450 _ _ _ _ _ (dec_at lsk_law (k := 270) rfl) rfl ?_
  refine gs 451 _ _ _ _ (dec_at lsk_law (k := 271) rfl) h1 ?_
  refine gc 70 265 1 271 12 452 _ _ _ _ _ _ u1 _ (dec_at lsk_law (k := 272) rfl) m_13_70 rfl (Nat.le_of_ble_eq_true rfl) sx_271 me_265 rfl hv (fun v u2 hv2 => ?_)
  obtain ⟨r', rfl, e, hI2⟩ := hv2
  rw [e]
  exact gb _ _ 455 704 _ _ _ _ (dec_at lsk_law (k := 273) rfl) (lw_icmp (by decide)) (hE u2 hI2)
/-- within -/
theorem law_13 (hG : lwG G b0 L xs) {Inv : uS → Prop} {x3 : Int32} {u : uS} (h1 : vp_in (x3 + Int32.ofInt 1) L) (h2 : vp_in (x3 + Int32.ofInt 2) L) (h3 : vp_in (x3 + Int32.ofInt 3) L) (hO : ∀ (x0 : Int32), opI Inv 137 268 [.int x0]) (hI : Inv u) (hE : ∀ u2, Inv u2 → G 704 [.retAddr (b0 + 1), .ref 0, .ref 271, .int x3] [] u2) : G 460 [.retAddr (b0 + 1), .ref 0, .ref 271, .int x3] [] u := by
  obtain ⟨gp, gb, gc, gl, gs, gn, ge⟩ := hG
  refine gp _ _ 460 _ _ _ _ _ (dec_at lsk_law (k := 276) rfl) rfl ?_
  refine gl 461 _ _ _ (dec_at lsk_law (k := 277) rfl) rfl ?_
  refine gp _ _ 462 _ _ _ _ _ (dec_at lsk_law (k := 278) rfl) rfl ?_
  refine gp _ _ 463 _ _ _ _ _ (dec_at lsk_law (k := 279) rfl) rfl ?_
  refine gp _ _ 464 _ _ _ _ _ (dec_at lsk_law (k := 280) rfl) rfl ?_
  refine gs 465 _ _ _ _ (dec_at lsk_law (k := 281) rfl) h1 ?_
  refine gc 71 137 1 0 0 466 _ _ _ _ _ _ u _ (dec_at lsk_law (k := 282) rfl) m_13_71 rfl (Nat.le_of_ble_eq_true rfl) sx_0 me_137 rfl (hO _ u hI) (fun v u1 hv => ?_)
  obtain ⟨r, rfl, hv⟩ := hv
  refine gp _ _ 469 _ _ _ _ _ (dec_at lsk_law (k := 283) rfl) rfl ?_
  refine gl 470 _ _ _ (dec_at lsk_law (k := 284) rfl) rfl ?_
  refine gp _ _ 471 _ _ _ _ _ (dec_at lsk_law (k := 285) rfl) rfl ?_
  refine gp _ _ 472 _ _ _ _ _ (dec_at lsk_law (k := 286) rfl) rfl ?_
  refine gp _ _ 473 _ _ _ _ _ (dec_at lsk_law (k := 287) rfl) rfl ?_
  refine gs 474 _ _ _ _ (dec_at lsk_law (k := 288) rfl) h1 ?_
  refine gc 74 268 1 271 12 475 _ _ _ _ _ _ u1 _ (dec_at lsk_law (k := 289) rfl) m_13_74 rfl (Nat.le_of_ble_eq_true rfl) sx_271 me_268 rfl hv (fun v u2 hv2 => ?_)
  obtain ⟨r', rfl, e, hI2⟩ := hv2
  rw [e]
  exact gb _ _ 478 704 _ _ _ _ (dec_at lsk_law (k := 290) rfl) (lw_icmp (by decide)) (hE u2 hI2)
/-- witness -/
theorem law_14 (hG : lwG G b0 L xs) {Inv : uS → Prop} {x3 : Int32} {u : uS} (h1 : vp_in (x3 + Int32.ofInt 1) L) (h2 : vp_in (x3 + Int32.ofInt 2) L) (h3 : vp_in (x3 + Int32.ofInt 3) L) (hO : ∀ (x0 : Int32), opL Inv 175 281 [.int x0]) (hI : Inv u) (hE : ∀ u2, Inv u2 → G 704 [.retAddr (b0 + 1), .ref 0, .ref 271, .int x3] [] u2) : G 483 [.retAddr (b0 + 1), .ref 0, .ref 271, .int x3] [] u := by
  obtain ⟨gp, gb, gc, gl, gs, gn, ge⟩ := hG
  refine gp _ _ 483 _ _ _ _ _ (dec_at lsk_law (k := 293) rfl) rfl ?_
  refine gl 484 _ _ _ (dec_at lsk_law (k := 294) rfl) rfl ?_
  refine gp _ _ 485 _ _ _ _ _ (dec_at lsk_law (k := 295) rfl) rfl ?_
  refine gp _ _ 486 _ _ _ _ _ (dec_at lsk_law (k := 296) rfl) rfl ?_
  refine gp _ _ 487 _ _ _ _ _ (dec_at lsk_law (k := 297) rfl) rfl ?_
  refine gs 488 _ _ _ _ (dec_at lsk_law (k := 298) rfl) h1 ?_
  refine gc 75 175 1 0 0 489 _ _ _ _ _ _ u _ (dec_at lsk_law (k := 299) rfl) m_13_75 rfl (Nat.le_of_ble_eq_true rfl) sx_0 me_175 rfl (hO _ u hI) (fun v u1 hv => ?_)
  obtain ⟨r, rfl, hv⟩ := hv
  refine gp _ _ 492 _ _ _ _ _ (dec_at lsk_law (k := 300) rfl) rfl ?_
  refine gl 493 _ _ _ (dec_at lsk_law (k := 301) rfl) rfl ?_
  refine gp _ _ 494 _ _ _ _ _ (dec_at lsk_law (k := 302) rfl) rfl ?_
  refine gp _ _ 495 _ _ _ _ _ (dec_at lsk_law (k := 303) rfl) rfl ?_
  refine gp _ _ 496 _ _ _ _ _ (dec_at lsk_law (k := 304) rfl) rfl ?_
  refine gs 497 _ _ _ _ (dec_at lsk_law (k := 305) rfl) h1 ?_
  refine gc 78 281 1 271 12 498 _ _ _ _ _ _ u1 _ (dec_at lsk_law (k := 306) rfl) m_13_78 rfl (Nat.le_of_ble_eq_true rfl) sx_271 me_281 rfl hv (fun v u2 hv2 => ?_)
  obtain ⟨r', rfl, e, hI2⟩ := hv2
  rw [e]
  refine gp _ _ 501 _ _ _ _ _ (dec_at lsk_law (k := 307) rfl) lw_lcmp ?_
  exact gb _ _ 502 704 _ _ _ _ (dec_at lsk_law (k := 308) rfl) (lw_ife (by decide)) (hE u2 hI2)
/-- letter -/
theorem law_15 (hG : lwG G b0 L xs) {Inv : uS → Prop} {x3 : Int32} {u : uS} (h1 : vp_in (x3 + Int32.ofInt 1) L) (h2 : vp_in (x3 + Int32.ofInt 2) L) (h3 : vp_in (x3 + Int32.ofInt 3) L) (hO : ∀ (x0 : Int64), opI Inv 180 282 [.long x0]) (hI : Inv u) (hE : ∀ u2, Inv u2 → G 704 [.retAddr (b0 + 1), .ref 0, .ref 271, .int x3] [] u2) : G 507 [.retAddr (b0 + 1), .ref 0, .ref 271, .int x3] [] u := by
  obtain ⟨gp, gb, gc, gl, gs, gn, ge⟩ := hG
  refine gp _ _ 507 _ _ _ _ _ (dec_at lsk_law (k := 311) rfl) rfl ?_
  refine gl 508 _ _ _ (dec_at lsk_law (k := 312) rfl) rfl ?_
  refine gp _ _ 509 _ _ _ _ _ (dec_at lsk_law (k := 313) rfl) rfl ?_
  refine gp _ _ 510 _ _ _ _ _ (dec_at lsk_law (k := 314) rfl) rfl ?_
  refine gp _ _ 511 _ _ _ _ _ (dec_at lsk_law (k := 315) rfl) rfl ?_
  refine gs 512 _ _ _ _ (dec_at lsk_law (k := 316) rfl) h1 ?_
  refine gp _ _ 513 _ _ _ _ _ (dec_at lsk_law (k := 317) rfl) rfl ?_
  refine gp _ _ 514 _ _ _ _ _ (dec_at lsk_law (k := 318) rfl) rfl ?_
  refine gp _ _ 516 _ _ _ _ _ (dec_at lsk_law (k := 319) rfl) rfl ?_
  refine gl 517 _ _ _ (dec_at lsk_law (k := 320) rfl) rfl ?_
  refine gp _ _ 518 _ _ _ _ _ (dec_at lsk_law (k := 321) rfl) rfl ?_
  refine gp _ _ 519 _ _ _ _ _ (dec_at lsk_law (k := 322) rfl) rfl ?_
  refine gp _ _ 520 _ _ _ _ _ (dec_at lsk_law (k := 323) rfl) rfl ?_
  refine gs 521 _ _ _ _ (dec_at lsk_law (k := 324) rfl) h2 ?_
  refine gp _ _ 522 _ _ _ _ _ (dec_at lsk_law (k := 325) rfl) rfl ?_
  refine gp _ _ 523 _ _ _ _ _ (dec_at lsk_law (k := 326) rfl) rfl ?_
  refine gp _ _ 526 _ _ _ _ _ (dec_at lsk_law (k := 327) rfl) rfl ?_
  refine gp _ _ 527 _ _ _ _ _ (dec_at lsk_law (k := 328) rfl) rfl ?_
  refine gc 81 180 1 0 0 528 _ _ _ _ _ _ u _ (dec_at lsk_law (k := 329) rfl) m_13_81 rfl (Nat.le_of_ble_eq_true rfl) sx_0 me_180 rfl (hO _ u hI) (fun v u1 hv => ?_)
  obtain ⟨r, rfl, hv⟩ := hv
  refine gp _ _ 531 _ _ _ _ _ (dec_at lsk_law (k := 330) rfl) rfl ?_
  refine gl 532 _ _ _ (dec_at lsk_law (k := 331) rfl) rfl ?_
  refine gp _ _ 533 _ _ _ _ _ (dec_at lsk_law (k := 332) rfl) rfl ?_
  refine gp _ _ 534 _ _ _ _ _ (dec_at lsk_law (k := 333) rfl) rfl ?_
  refine gp _ _ 535 _ _ _ _ _ (dec_at lsk_law (k := 334) rfl) rfl ?_
  refine gs 536 _ _ _ _ (dec_at lsk_law (k := 335) rfl) h1 ?_
  refine gp _ _ 537 _ _ _ _ _ (dec_at lsk_law (k := 336) rfl) rfl ?_
  refine gp _ _ 538 _ _ _ _ _ (dec_at lsk_law (k := 337) rfl) rfl ?_
  refine gp _ _ 540 _ _ _ _ _ (dec_at lsk_law (k := 338) rfl) rfl ?_
  refine gl 541 _ _ _ (dec_at lsk_law (k := 339) rfl) rfl ?_
  refine gp _ _ 542 _ _ _ _ _ (dec_at lsk_law (k := 340) rfl) rfl ?_
  refine gp _ _ 543 _ _ _ _ _ (dec_at lsk_law (k := 341) rfl) rfl ?_
  refine gp _ _ 544 _ _ _ _ _ (dec_at lsk_law (k := 342) rfl) rfl ?_
  refine gs 545 _ _ _ _ (dec_at lsk_law (k := 343) rfl) h2 ?_
  refine gp _ _ 546 _ _ _ _ _ (dec_at lsk_law (k := 344) rfl) rfl ?_
  refine gp _ _ 547 _ _ _ _ _ (dec_at lsk_law (k := 345) rfl) rfl ?_
  refine gp _ _ 550 _ _ _ _ _ (dec_at lsk_law (k := 346) rfl) rfl ?_
  refine gp _ _ 551 _ _ _ _ _ (dec_at lsk_law (k := 347) rfl) rfl ?_
  refine gc 85 282 1 271 12 552 _ _ _ _ _ _ u1 _ (dec_at lsk_law (k := 348) rfl) m_13_85 rfl (Nat.le_of_ble_eq_true rfl) sx_271 me_282 rfl hv (fun v u2 hv2 => ?_)
  obtain ⟨r', rfl, e, hI2⟩ := hv2
  rw [e]
  exact gb _ _ 555 704 _ _ _ _ (dec_at lsk_law (k := 349) rfl) (lw_icmp (by decide)) (hE u2 hI2)
/-- node -/
theorem law_16 (hG : lwG G b0 L xs) {Inv : uS → Prop} {x3 : Int32} {u : uS} (h1 : vp_in (x3 + Int32.ofInt 1) L) (h2 : vp_in (x3 + Int32.ofInt 2) L) (h3 : vp_in (x3 + Int32.ofInt 3) L) (hO : ∀ (x0 : Int64) (x1 : Int32), opL Inv 183 284 [.long x0, .int x1]) (hI : Inv u) (hE : ∀ u2, Inv u2 → G 704 [.retAddr (b0 + 1), .ref 0, .ref 271, .int x3] [] u2) : G 560 [.retAddr (b0 + 1), .ref 0, .ref 271, .int x3] [] u := by
  obtain ⟨gp, gb, gc, gl, gs, gn, ge⟩ := hG
  refine gp _ _ 560 _ _ _ _ _ (dec_at lsk_law (k := 352) rfl) rfl ?_
  refine gl 561 _ _ _ (dec_at lsk_law (k := 353) rfl) rfl ?_
  refine gp _ _ 562 _ _ _ _ _ (dec_at lsk_law (k := 354) rfl) rfl ?_
  refine gp _ _ 563 _ _ _ _ _ (dec_at lsk_law (k := 355) rfl) rfl ?_
  refine gp _ _ 564 _ _ _ _ _ (dec_at lsk_law (k := 356) rfl) rfl ?_
  refine gs 565 _ _ _ _ (dec_at lsk_law (k := 357) rfl) h1 ?_
  refine gp _ _ 566 _ _ _ _ _ (dec_at lsk_law (k := 358) rfl) rfl ?_
  refine gp _ _ 567 _ _ _ _ _ (dec_at lsk_law (k := 359) rfl) rfl ?_
  refine gp _ _ 569 _ _ _ _ _ (dec_at lsk_law (k := 360) rfl) rfl ?_
  refine gl 570 _ _ _ (dec_at lsk_law (k := 361) rfl) rfl ?_
  refine gp _ _ 571 _ _ _ _ _ (dec_at lsk_law (k := 362) rfl) rfl ?_
  refine gp _ _ 572 _ _ _ _ _ (dec_at lsk_law (k := 363) rfl) rfl ?_
  refine gp _ _ 573 _ _ _ _ _ (dec_at lsk_law (k := 364) rfl) rfl ?_
  refine gs 574 _ _ _ _ (dec_at lsk_law (k := 365) rfl) h2 ?_
  refine gp _ _ 575 _ _ _ _ _ (dec_at lsk_law (k := 366) rfl) rfl ?_
  refine gp _ _ 576 _ _ _ _ _ (dec_at lsk_law (k := 367) rfl) rfl ?_
  refine gp _ _ 579 _ _ _ _ _ (dec_at lsk_law (k := 368) rfl) rfl ?_
  refine gp _ _ 580 _ _ _ _ _ (dec_at lsk_law (k := 369) rfl) rfl ?_
  refine gl 581 _ _ _ (dec_at lsk_law (k := 370) rfl) rfl ?_
  refine gp _ _ 582 _ _ _ _ _ (dec_at lsk_law (k := 371) rfl) rfl ?_
  refine gp _ _ 583 _ _ _ _ _ (dec_at lsk_law (k := 372) rfl) rfl ?_
  refine gp _ _ 584 _ _ _ _ _ (dec_at lsk_law (k := 373) rfl) rfl ?_
  refine gs 585 _ _ _ _ (dec_at lsk_law (k := 374) rfl) h3 ?_
  refine gc 86 183 2 0 0 586 _ _ _ _ _ _ u _ (dec_at lsk_law (k := 375) rfl) m_13_86 rfl (Nat.le_of_ble_eq_true rfl) sx_0 me_183 rfl (hO _ _ u hI) (fun v u1 hv => ?_)
  obtain ⟨r, rfl, hv⟩ := hv
  refine gp _ _ 589 _ _ _ _ _ (dec_at lsk_law (k := 376) rfl) rfl ?_
  refine gl 590 _ _ _ (dec_at lsk_law (k := 377) rfl) rfl ?_
  refine gp _ _ 591 _ _ _ _ _ (dec_at lsk_law (k := 378) rfl) rfl ?_
  refine gp _ _ 592 _ _ _ _ _ (dec_at lsk_law (k := 379) rfl) rfl ?_
  refine gp _ _ 593 _ _ _ _ _ (dec_at lsk_law (k := 380) rfl) rfl ?_
  refine gs 594 _ _ _ _ (dec_at lsk_law (k := 381) rfl) h1 ?_
  refine gp _ _ 595 _ _ _ _ _ (dec_at lsk_law (k := 382) rfl) rfl ?_
  refine gp _ _ 596 _ _ _ _ _ (dec_at lsk_law (k := 383) rfl) rfl ?_
  refine gp _ _ 598 _ _ _ _ _ (dec_at lsk_law (k := 384) rfl) rfl ?_
  refine gl 599 _ _ _ (dec_at lsk_law (k := 385) rfl) rfl ?_
  refine gp _ _ 600 _ _ _ _ _ (dec_at lsk_law (k := 386) rfl) rfl ?_
  refine gp _ _ 601 _ _ _ _ _ (dec_at lsk_law (k := 387) rfl) rfl ?_
  refine gp _ _ 602 _ _ _ _ _ (dec_at lsk_law (k := 388) rfl) rfl ?_
  refine gs 603 _ _ _ _ (dec_at lsk_law (k := 389) rfl) h2 ?_
  refine gp _ _ 604 _ _ _ _ _ (dec_at lsk_law (k := 390) rfl) rfl ?_
  refine gp _ _ 605 _ _ _ _ _ (dec_at lsk_law (k := 391) rfl) rfl ?_
  refine gp _ _ 608 _ _ _ _ _ (dec_at lsk_law (k := 392) rfl) rfl ?_
  refine gp _ _ 609 _ _ _ _ _ (dec_at lsk_law (k := 393) rfl) rfl ?_
  refine gl 610 _ _ _ (dec_at lsk_law (k := 394) rfl) rfl ?_
  refine gp _ _ 611 _ _ _ _ _ (dec_at lsk_law (k := 395) rfl) rfl ?_
  refine gp _ _ 612 _ _ _ _ _ (dec_at lsk_law (k := 396) rfl) rfl ?_
  refine gp _ _ 613 _ _ _ _ _ (dec_at lsk_law (k := 397) rfl) rfl ?_
  refine gs 614 _ _ _ _ (dec_at lsk_law (k := 398) rfl) h3 ?_
  refine gc 90 284 2 271 12 615 _ _ _ _ _ _ u1 _ (dec_at lsk_law (k := 399) rfl) m_13_90 rfl (Nat.le_of_ble_eq_true rfl) sx_271 me_284 rfl hv (fun v u2 hv2 => ?_)
  obtain ⟨r', rfl, e, hI2⟩ := hv2
  rw [e]
  refine gp _ _ 618 _ _ _ _ _ (dec_at lsk_law (k := 400) rfl) lw_lcmp ?_
  exact gb _ _ 619 704 _ _ _ _ (dec_at lsk_law (k := 401) rfl) (lw_ife (by decide)) (hE u2 hI2)
/-- copy -/
theorem law_17 (hG : lwG G b0 L xs) {Inv : uS → Prop} {x3 : Int32} {u : uS} (h1 : vp_in (x3 + Int32.ofInt 1) L) (h2 : vp_in (x3 + Int32.ofInt 2) L) (h3 : vp_in (x3 + Int32.ofInt 3) L) (hO : opI Inv 187 285 []) (hI : Inv u) (hE : ∀ u2, Inv u2 → G 704 [.retAddr (b0 + 1), .ref 0, .ref 271, .int x3] [] u2) : G 624 [.retAddr (b0 + 1), .ref 0, .ref 271, .int x3] [] u := by
  obtain ⟨gp, gb, gc, gl, gs, gn, ge⟩ := hG
  refine gp _ _ 624 _ _ _ _ _ (dec_at lsk_law (k := 404) rfl) rfl ?_
  refine gc 91 187 0 0 0 625 _ _ _ _ _ _ u _ (dec_at lsk_law (k := 405) rfl) m_13_91 rfl (Nat.le_of_ble_eq_true rfl) sx_0 me_187 rfl (hO u hI) (fun v u1 hv => ?_)
  obtain ⟨r, rfl, hv⟩ := hv
  refine gp _ _ 628 _ _ _ _ _ (dec_at lsk_law (k := 406) rfl) rfl ?_
  refine gc 94 285 0 271 12 629 _ _ _ _ _ _ u1 _ (dec_at lsk_law (k := 407) rfl) m_13_94 rfl (Nat.le_of_ble_eq_true rfl) sx_271 me_285 rfl hv (fun v u2 hv2 => ?_)
  obtain ⟨r', rfl, e, hI2⟩ := hv2
  rw [e]
  exact gb _ _ 632 704 _ _ _ _ (dec_at lsk_law (k := 408) rfl) (lw_icmp (by decide)) (hE u2 hI2)
/-- product -/
theorem law_18 (hG : lwG G b0 L xs) {Inv : uS → Prop} {x3 : Int32} {u : uS} (h1 : vp_in (x3 + Int32.ofInt 1) L) (h2 : vp_in (x3 + Int32.ofInt 2) L) (h3 : vp_in (x3 + Int32.ofInt 3) L) (hO : ∀ (x0 : Int32) (x1 : Int32), opL Inv 188 286 [.int x0, .int x1]) (hI : Inv u) (hE : ∀ u2, Inv u2 → G 704 [.retAddr (b0 + 1), .ref 0, .ref 271, .int x3] [] u2) : G 637 [.retAddr (b0 + 1), .ref 0, .ref 271, .int x3] [] u := by
  obtain ⟨gp, gb, gc, gl, gs, gn, ge⟩ := hG
  refine gp _ _ 637 _ _ _ _ _ (dec_at lsk_law (k := 411) rfl) rfl ?_
  refine gl 638 _ _ _ (dec_at lsk_law (k := 412) rfl) rfl ?_
  refine gp _ _ 639 _ _ _ _ _ (dec_at lsk_law (k := 413) rfl) rfl ?_
  refine gp _ _ 640 _ _ _ _ _ (dec_at lsk_law (k := 414) rfl) rfl ?_
  refine gp _ _ 641 _ _ _ _ _ (dec_at lsk_law (k := 415) rfl) rfl ?_
  refine gs 642 _ _ _ _ (dec_at lsk_law (k := 416) rfl) h1 ?_
  refine gl 643 _ _ _ (dec_at lsk_law (k := 417) rfl) rfl ?_
  refine gp _ _ 644 _ _ _ _ _ (dec_at lsk_law (k := 418) rfl) rfl ?_
  refine gp _ _ 645 _ _ _ _ _ (dec_at lsk_law (k := 419) rfl) rfl ?_
  refine gp _ _ 646 _ _ _ _ _ (dec_at lsk_law (k := 420) rfl) rfl ?_
  refine gs 647 _ _ _ _ (dec_at lsk_law (k := 421) rfl) h2 ?_
  refine gc 95 188 2 0 0 648 _ _ _ _ _ _ u _ (dec_at lsk_law (k := 422) rfl) m_13_95 rfl (Nat.le_of_ble_eq_true rfl) sx_0 me_188 rfl (hO _ _ u hI) (fun v u1 hv => ?_)
  obtain ⟨r, rfl, hv⟩ := hv
  refine gp _ _ 651 _ _ _ _ _ (dec_at lsk_law (k := 423) rfl) rfl ?_
  refine gl 652 _ _ _ (dec_at lsk_law (k := 424) rfl) rfl ?_
  refine gp _ _ 653 _ _ _ _ _ (dec_at lsk_law (k := 425) rfl) rfl ?_
  refine gp _ _ 654 _ _ _ _ _ (dec_at lsk_law (k := 426) rfl) rfl ?_
  refine gp _ _ 655 _ _ _ _ _ (dec_at lsk_law (k := 427) rfl) rfl ?_
  refine gs 656 _ _ _ _ (dec_at lsk_law (k := 428) rfl) h1 ?_
  refine gl 657 _ _ _ (dec_at lsk_law (k := 429) rfl) rfl ?_
  refine gp _ _ 658 _ _ _ _ _ (dec_at lsk_law (k := 430) rfl) rfl ?_
  refine gp _ _ 659 _ _ _ _ _ (dec_at lsk_law (k := 431) rfl) rfl ?_
  refine gp _ _ 660 _ _ _ _ _ (dec_at lsk_law (k := 432) rfl) rfl ?_
  refine gs 661 _ _ _ _ (dec_at lsk_law (k := 433) rfl) h2 ?_
  refine gc 98 286 2 271 12 662 _ _ _ _ _ _ u1 _ (dec_at lsk_law (k := 434) rfl) m_13_98 rfl (Nat.le_of_ble_eq_true rfl) sx_271 me_286 rfl hv (fun v u2 hv2 => ?_)
  obtain ⟨r', rfl, e, hI2⟩ := hv2
  rw [e]
  refine gp _ _ 665 _ _ _ _ _ (dec_at lsk_law (k := 435) rfl) lw_lcmp ?_
  exact gb _ _ 666 704 _ _ _ _ (dec_at lsk_law (k := 436) rfl) (lw_ife (by decide)) (hE u2 hI2)
/-- meets -/
theorem law_19 (hG : lwG G b0 L xs) {Inv : uS → Prop} {x3 : Int32} {u : uS} (h1 : vp_in (x3 + Int32.ofInt 1) L) (h2 : vp_in (x3 + Int32.ofInt 2) L) (h3 : vp_in (x3 + Int32.ofInt 3) L) (hO : ∀ (x0 : Int32) (x1 : Int32), opI Inv 199 290 [.int x0, .int x1]) (hI : Inv u) (hE : ∀ u2, Inv u2 → G 704 [.retAddr (b0 + 1), .ref 0, .ref 271, .int x3] [] u2) : G 671 [.retAddr (b0 + 1), .ref 0, .ref 271, .int x3] [] u := by
  obtain ⟨gp, gb, gc, gl, gs, gn, ge⟩ := hG
  refine gp _ _ 671 _ _ _ _ _ (dec_at lsk_law (k := 439) rfl) rfl ?_
  refine gl 672 _ _ _ (dec_at lsk_law (k := 440) rfl) rfl ?_
  refine gp _ _ 673 _ _ _ _ _ (dec_at lsk_law (k := 441) rfl) rfl ?_
  refine gp _ _ 674 _ _ _ _ _ (dec_at lsk_law (k := 442) rfl) rfl ?_
  refine gp _ _ 675 _ _ _ _ _ (dec_at lsk_law (k := 443) rfl) rfl ?_
  refine gs 676 _ _ _ _ (dec_at lsk_law (k := 444) rfl) h1 ?_
  refine gl 677 _ _ _ (dec_at lsk_law (k := 445) rfl) rfl ?_
  refine gp _ _ 678 _ _ _ _ _ (dec_at lsk_law (k := 446) rfl) rfl ?_
  refine gp _ _ 679 _ _ _ _ _ (dec_at lsk_law (k := 447) rfl) rfl ?_
  refine gp _ _ 680 _ _ _ _ _ (dec_at lsk_law (k := 448) rfl) rfl ?_
  refine gs 681 _ _ _ _ (dec_at lsk_law (k := 449) rfl) h2 ?_
  refine gc 99 199 2 0 0 682 _ _ _ _ _ _ u _ (dec_at lsk_law (k := 450) rfl) m_13_99 rfl (Nat.le_of_ble_eq_true rfl) sx_0 me_199 rfl (hO _ _ u hI) (fun v u1 hv => ?_)
  obtain ⟨r, rfl, hv⟩ := hv
  refine gp _ _ 685 _ _ _ _ _ (dec_at lsk_law (k := 451) rfl) rfl ?_
  refine gl 686 _ _ _ (dec_at lsk_law (k := 452) rfl) rfl ?_
  refine gp _ _ 687 _ _ _ _ _ (dec_at lsk_law (k := 453) rfl) rfl ?_
  refine gp _ _ 688 _ _ _ _ _ (dec_at lsk_law (k := 454) rfl) rfl ?_
  refine gp _ _ 689 _ _ _ _ _ (dec_at lsk_law (k := 455) rfl) rfl ?_
  refine gs 690 _ _ _ _ (dec_at lsk_law (k := 456) rfl) h1 ?_
  refine gl 691 _ _ _ (dec_at lsk_law (k := 457) rfl) rfl ?_
  refine gp _ _ 692 _ _ _ _ _ (dec_at lsk_law (k := 458) rfl) rfl ?_
  refine gp _ _ 693 _ _ _ _ _ (dec_at lsk_law (k := 459) rfl) rfl ?_
  refine gp _ _ 694 _ _ _ _ _ (dec_at lsk_law (k := 460) rfl) rfl ?_
  refine gs 695 _ _ _ _ (dec_at lsk_law (k := 461) rfl) h2 ?_
  refine gc 102 290 2 271 12 696 _ _ _ _ _ _ u1 _ (dec_at lsk_law (k := 462) rfl) m_13_102 rfl (Nat.le_of_ble_eq_true rfl) sx_271 me_290 rfl hv (fun v u2 hv2 => ?_)
  obtain ⟨r', rfl, e, hI2⟩ := hv2
  rw [e]
  exact gb _ _ 699 704 _ _ _ _ (dec_at lsk_law (k := 463) rfl) (lw_icmp (by decide)) (hE u2 hI2)
end LAW
/-- what every call must keep: both sides answer alike -/
def OPS (Inv : uS → Prop) : Prop := (∀ (x0 : Int32), opI Inv 15 202 [.int x0]) ∧ (opI Inv 17 204 []) ∧ (opI Inv 27 206 []) ∧ (∀ (x0 : Int32), opI Inv 62 235 [.int x0]) ∧ (∀ (x0 : Int32), opI Inv 98 220 [.int x0]) ∧ (∀ (x0 : Int32) (x1 : Int32), opI Inv 99 221 [.int x0, .int x1]) ∧ (∀ (x0 : Int32) (x1 : Int32), opL Inv 100 222 [.int x0, .int x1]) ∧ (∀ (x0 : Int32), opL Inv 102 223 [.int x0]) ∧ (∀ (x0 : Int32), opL Inv 124 234 [.int x0]) ∧ (∀ (x0 : Int32) (x1 : Int32) (x2 : Int32), opI Inv 127 262 [.int x0, .int x1, .int x2]) ∧ (∀ (x0 : Int32) (x1 : Int32), opI Inv 129 263 [.int x0, .int x1]) ∧ (∀ (x0 : Int32), opI Inv 130 264 [.int x0]) ∧ (∀ (x0 : Int32), opI Inv 131 265 [.int x0]) ∧ (∀ (x0 : Int32), opI Inv 137 268 [.int x0]) ∧ (∀ (x0 : Int32), opL Inv 175 281 [.int x0]) ∧ (∀ (x0 : Int64), opI Inv 180 282 [.long x0]) ∧ (∀ (x0 : Int64) (x1 : Int32), opL Inv 183 284 [.long x0, .int x1]) ∧ (opI Inv 187 285 []) ∧ (∀ (x0 : Int32) (x1 : Int32), opL Inv 188 286 [.int x0, .int x1]) ∧ (∀ (x0 : Int32) (x1 : Int32), opI Inv 199 290 [.int x0, .int x1])
theorem lw_ix {i L c : Nat} (h : i + c < L) (hL : L ≤ 2048) : vp_in (nI i + Int32.ofInt (c : Int)) L := by
  have e : nI i + Int32.ofInt (c : Int) = nI (i + c) := by
    rw [← nI_add]
    exact congrArg (fun z => nI i + z) Int32.ofInt_eq_ofNat
  rw [e]
  exact vp_in_nI h (by omega)
theorem lw_gt {i L : Nat} (hi : i < 4096) (hL : L ≤ 2048) : ev_cond .gt (nI i) (nI L - Int32.ofInt 4) = true ↔ L < i + 4 := by
  have e1 : (nI i).toInt = (i : Int) := nI_toInt (by omega)
  have e2 : (nI L - Int32.ofInt 4).toInt = (L : Int) - 4 := by
    rw [show nI L = Int32.ofInt (L : Int) from Int32.ofInt_eq_ofNat.symm, ← Int32.ofInt_sub]
    exact Int32.toInt_ofInt_of_le (by omega) (by omega)
  simp only [ev_cond, decide_eq_true_eq]
  rw [Int32.lt_iff_toInt_lt, e1, e2]
  omega
theorem law_loop {G : Nat → ev_L → List Value → uS → Prop} {b0 L : Nat} {xs : Nat → Int32} (hL : L ≤ 2048) (hG : lwG G b0 L xs) {Inv : uS → Prop} (hO : OPS Inv) : ∀ (n i : Nat) (u : uS), L < i + 4 * n → i < L + 4 → Inv u → G 18 [.retAddr (b0 + 1), .ref 0, .ref 271, .int (nI i)] [] u := by
  obtain ⟨gp, gb, gc, gl, gs, gn, ge⟩ := id hG
  obtain ⟨o0, o1, o2, o3, o4, o5, o6, o7, o8, o9, o10, o11, o12, o13, o14, o15, o16, o17, o18, o19⟩ := hO
  intro n
  induction n with
  | zero =>
    intro i u h1 h2 hI
    refine gp _ _ 18 _ _ _ _ _ (dec_at lsk_law (k := 10) rfl) rfl ?_
    refine gl 19 _ _ _ (dec_at lsk_law (k := 11) rfl) rfl ?_
    refine gn 20 _ _ _ (dec_at lsk_law (k := 12) rfl) ?_
    refine gp _ _ 21 _ _ _ _ _ (dec_at lsk_law (k := 13) rfl) rfl ?_
    refine gp _ _ 22 _ _ _ _ _ (dec_at lsk_law (k := 14) rfl) rfl ?_
    refine gb _ _ 23 710 _ _ [] _ (dec_at lsk_law (k := 15) rfl) ?_ ?_
    · simp only [ev_b]
      rw [if_pos ((lw_gt (by omega) hL).mpr (by omega))]
      rfl
    refine gp _ _ 710 _ _ _ _ _ (dec_at lsk_law (k := 468) rfl) rfl ?_
    exact ge 711 _ _ (dec_at lsk_law (k := 469) rfl)
  | succ n ih =>
    intro i u h1 h2 hI
    refine gp _ _ 18 _ _ _ _ _ (dec_at lsk_law (k := 10) rfl) rfl ?_
    refine gl 19 _ _ _ (dec_at lsk_law (k := 11) rfl) rfl ?_
    refine gn 20 _ _ _ (dec_at lsk_law (k := 12) rfl) ?_
    refine gp _ _ 21 _ _ _ _ _ (dec_at lsk_law (k := 13) rfl) rfl ?_
    refine gp _ _ 22 _ _ _ _ _ (dec_at lsk_law (k := 14) rfl) rfl ?_
    by_cases hc : L < i + 4
    · refine gb _ _ 23 710 _ _ [] _ (dec_at lsk_law (k := 15) rfl) ?_ ?_
      · simp only [ev_b]
        rw [if_pos ((lw_gt (by omega) hL).mpr hc)]
        rfl
      refine gp _ _ 710 _ _ _ _ _ (dec_at lsk_law (k := 468) rfl) rfl ?_
      exact ge 711 _ _ (dec_at lsk_law (k := 469) rfl)
    · refine gb _ _ 23 26 _ _ [] _ (dec_at lsk_law (k := 15) rfl) ?_ ?_
      · simp only [ev_b]
        rw [if_neg (fun q => hc ((lw_gt (by omega) hL).mp q))]
        rfl
      refine gl 26 _ _ _ (dec_at lsk_law (k := 16) rfl) rfl ?_
      refine gp _ _ 27 _ _ _ _ _ (dec_at lsk_law (k := 17) rfl) rfl ?_
      refine gs 28 _ _ _ _ (dec_at lsk_law (k := 18) rfl) (vp_in_nI (by omega) (by omega)) ?_
      refine gp _ _ 29 _ _ _ _ _ (dec_at lsk_law (k := 19) rfl) rfl ?_
      refine gp _ _ 31 _ _ _ _ _ (dec_at lsk_law (k := 20) rfl) rfl ?_
      generalize (xs (nI i).toNatClampNeg &&& (Int8.ofInt 31).toInt32) = z
      have hx1 := lw_ix (c := 1) (i := i) (by omega) hL
      have hx2 := lw_ix (c := 2) (i := i) (by omega) hL
      have hx3 := lw_ix (c := 3) (i := i) (by omega) hL
      have hE : ∀ u2, Inv u2 → G 704 [.retAddr (b0 + 1), .ref 0, .ref 271, .int (nI i)] [] u2 := by
        intro u2 hI2
        refine gp _ _ 704 _ [.retAddr (b0 + 1), .ref 0, .ref 271, .int (nI (i + 4))] _ [] _ (dec_at lsk_law (k := 466) rfl) ?_ ?_
        · show some ([Value.retAddr (b0 + 1), .ref 0, .ref 271, .int (nI i + Int32.ofInt 4)], ([] : List Value)) = _
          rw [show nI i + Int32.ofInt 4 = nI (i + 4) by rw [← nI_add]; rfl]
        refine gb _ _ 707 18 _ _ _ _ (dec_at lsk_law (k := 467) rfl) rfl ?_
        exact ih (i + 4) u2 (by omega) (by omega) hI2
      by_cases hz : z.toInt < 0 ∨ 19 < z.toInt
      · exact gb _ _ 32 704 _ _ _ _ (dec_at lsk_law (k := 21) rfl) (lw_sw0 hz (by decide)) (hE u hI)
      · have hz2 : z.toInt = (0 : Nat) ∨ z.toInt = (1 : Nat) ∨ z.toInt = (2 : Nat) ∨ z.toInt = (3 : Nat) ∨ z.toInt = (4 : Nat) ∨ z.toInt = (5 : Nat) ∨ z.toInt = (6 : Nat) ∨ z.toInt = (7 : Nat) ∨ z.toInt = (8 : Nat) ∨ z.toInt = (9 : Nat) ∨ z.toInt = (10 : Nat) ∨ z.toInt = (11 : Nat) ∨ z.toInt = (12 : Nat) ∨ z.toInt = (13 : Nat) ∨ z.toInt = (14 : Nat) ∨ z.toInt = (15 : Nat) ∨ z.toInt = (16 : Nat) ∨ z.toInt = (17 : Nat) ∨ z.toInt = (18 : Nat) ∨ z.toInt = (19 : Nat) := by omega
        rcases hz2 with hz | hz | hz | hz | hz | hz | hz | hz | hz | hz | hz | hz | hz | hz | hz | hz | hz | hz | hz | hz
        · exact gb _ _ 32 128 _ _ _ _ (dec_at lsk_law (k := 21) rfl) (lw_sw hz (by decide) rfl (by decide)) (law_0 hG hx1 hx2 hx3 o0 hI hE)
        · exact gb _ _ 32 151 _ _ _ _ (dec_at lsk_law (k := 21) rfl) (lw_sw hz (by decide) rfl (by decide)) (law_1 hG hx1 hx2 hx3 o1 hI hE)
        · exact gb _ _ 32 164 _ _ _ _ (dec_at lsk_law (k := 21) rfl) (lw_sw hz (by decide) rfl (by decide)) (law_2 hG hx1 hx2 hx3 o2 hI hE)
        · exact gb _ _ 32 177 _ _ _ _ (dec_at lsk_law (k := 21) rfl) (lw_sw hz (by decide) rfl (by decide)) (law_3 hG hx1 hx2 hx3 o3 hI hE)
        · exact gb _ _ 32 200 _ _ _ _ (dec_at lsk_law (k := 21) rfl) (lw_sw hz (by decide) rfl (by decide)) (law_4 hG hx1 hx2 hx3 o4 hI hE)
        · exact gb _ _ 32 223 _ _ _ _ (dec_at lsk_law (k := 21) rfl) (lw_sw hz (by decide) rfl (by decide)) (law_5 hG hx1 hx2 hx3 o5 hI hE)
        · exact gb _ _ 32 256 _ _ _ _ (dec_at lsk_law (k := 21) rfl) (lw_sw hz (by decide) rfl (by decide)) (law_6 hG hx1 hx2 hx3 o6 hI hE)
        · exact gb _ _ 32 290 _ _ _ _ (dec_at lsk_law (k := 21) rfl) (lw_sw hz (by decide) rfl (by decide)) (law_7 hG hx1 hx2 hx3 o7 hI hE)
        · exact gb _ _ 32 314 _ _ _ _ (dec_at lsk_law (k := 21) rfl) (lw_sw hz (by decide) rfl (by decide)) (law_8 hG hx1 hx2 hx3 o8 hI hE)
        · exact gb _ _ 32 338 _ _ _ _ (dec_at lsk_law (k := 21) rfl) (lw_sw hz (by decide) rfl (by decide)) (law_9 hG hx1 hx2 hx3 o9 hI hE)
        · exact gb _ _ 32 381 _ _ _ _ (dec_at lsk_law (k := 21) rfl) (lw_sw hz (by decide) rfl (by decide)) (law_10 hG hx1 hx2 hx3 o10 hI hE)
        · exact gb _ _ 32 414 _ _ _ _ (dec_at lsk_law (k := 21) rfl) (lw_sw hz (by decide) rfl (by decide)) (law_11 hG hx1 hx2 hx3 o11 hI hE)
        · exact gb _ _ 32 437 _ _ _ _ (dec_at lsk_law (k := 21) rfl) (lw_sw hz (by decide) rfl (by decide)) (law_12 hG hx1 hx2 hx3 o12 hI hE)
        · exact gb _ _ 32 460 _ _ _ _ (dec_at lsk_law (k := 21) rfl) (lw_sw hz (by decide) rfl (by decide)) (law_13 hG hx1 hx2 hx3 o13 hI hE)
        · exact gb _ _ 32 483 _ _ _ _ (dec_at lsk_law (k := 21) rfl) (lw_sw hz (by decide) rfl (by decide)) (law_14 hG hx1 hx2 hx3 o14 hI hE)
        · exact gb _ _ 32 507 _ _ _ _ (dec_at lsk_law (k := 21) rfl) (lw_sw hz (by decide) rfl (by decide)) (law_15 hG hx1 hx2 hx3 o15 hI hE)
        · exact gb _ _ 32 560 _ _ _ _ (dec_at lsk_law (k := 21) rfl) (lw_sw hz (by decide) rfl (by decide)) (law_16 hG hx1 hx2 hx3 o16 hI hE)
        · exact gb _ _ 32 624 _ _ _ _ (dec_at lsk_law (k := 21) rfl) (lw_sw hz (by decide) rfl (by decide)) (law_17 hG hx1 hx2 hx3 o17 hI hE)
        · exact gb _ _ 32 637 _ _ _ _ (dec_at lsk_law (k := 21) rfl) (lw_sw hz (by decide) rfl (by decide)) (law_18 hG hx1 hx2 hx3 o18 hI hE)
        · exact gb _ _ 32 671 _ _ _ _ (dec_at lsk_law (k := 21) rfl) (lw_sw hz (by decide) rfl (by decide)) (law_19 hG hx1 hx2 hx3 o19 hI hE)
