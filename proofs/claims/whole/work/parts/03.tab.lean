/-- the cells in the order in which they are made: an object (class, its fields: 0 an int, 1 a boolean, j + 2 the cell j), or an array (type, length) -/
def am_L : List ((Nat × List Nat) ⊕ (Nat × Nat)) := [
  .inl (9, [3, 15, 1, 27, 0, 28, 39, 43, 44, 48, 50]),
  .inl (7, [0, 0, 0, 0, 0, 4, 0, 0, 5, 6, 7, 0, 8, 9]),
  .inr (0, 16),
  .inr (0, 12),
  .inr (0, 12),
  .inr (0, 36),
  .inr (0, 320),
  .inl (1, [0, 10, 11, 12, 13, 14]),
  .inr (0, 16),
  .inr (0, 17),
  .inr (0, 400),
  .inr (0, 6),
  .inr (0, 32),
  .inl (7, [0, 0, 0, 0, 0, 16, 0, 0, 17, 18, 19, 0, 20, 21]),
  .inr (0, 16),
  .inr (0, 12),
  .inr (0, 12),
  .inr (0, 36),
  .inr (0, 320),
  .inl (1, [0, 22, 23, 24, 25, 26]),
  .inr (0, 16),
  .inr (0, 17),
  .inr (0, 400),
  .inr (0, 6),
  .inr (0, 32),
  .inr (1, 400),
  .inl (2, [29, 33, 0, 0, 0, 0, 0]),
  .inl (6, [30, 31, 32, 0]),
  .inr (0, 401),
  .inr (0, 401),
  .inr (0, 401),
  .inl (1, [0, 34, 35, 36, 37, 38]),
  .inr (0, 16),
  .inr (0, 17),
  .inr (0, 400),
  .inr (0, 6),
  .inr (0, 32),
  .inl (4, [40, 41, 42, 0, 0]),
  .inr (0, 6),
  .inr (0, 6),
  .inr (0, 216),
  .inl (0, [0, 0, 0]),
  .inl (5, [45, 46, 0, 47, 0, 0, 0, 0, 0, 0]),
  .inr (0, 12),
  .inr (0, 12),
  .inr (0, 12),
  .inl (8, [0, 49, 0]),
  .inr (0, 4),
  .inl (3, [0, 51, 0, 52, 53, 54, 55, 56, 57, 0]),
  .inr (0, 7),
  .inr (0, 147),
  .inr (0, 7),
  .inr (0, 147),
  .inr (0, 7),
  .inr (0, 8),
  .inr (0, 4096),
  .inl (10, [59, 60, 61, 0, 1, 62, 63, 64, 65, 66, 67, 0, 0, 0, 0, 0, 0, 0, 0, 0, 0, 0, 0, 0, 68, 69, 0, 70, 0, 71, 72, 73, 74]),
  .inr (0, 1320),
  .inr (0, 1320),
  .inr (0, 378),
  .inr (0, 5),
  .inr (0, 48),
  .inr (0, 820),
  .inr (0, 400),
  .inr (0, 420),
  .inr (0, 7),
  .inr (0, 12),
  .inr (2, 12),
  .inr (0, 12),
  .inr (0, 131072),
  .inr (0, 7),
  .inr (2, 896),
  .inr (0, 4)]
def am_FT : List (Nat × List (Nat × (Nat × Nat))) := [
  (0, [(9, (0, 0)), (15, (0, 1)), (18, (0, 2))]),
  (1, [(9, (1, 1)), (15, (1, 2)), (18, (1, 3)), (21, (1, 4)), (24, (1, 5)), (27, (1, 0))]),
  (2, [(12, (2, 0)), (21, (2, 1)), (25, (2, 6)), (33, (2, 2)), (40, (2, 3)), (43, (2, 4)), (46, (2, 5))]),
  (3, [(9, (3, 1)), (15, (3, 3)), (18, (3, 4)), (21, (3, 5)), (24, (3, 6)), (27, (3, 7)), (30, (3, 8)), (39, (3, 2)), (46, (3, 9)), (57, (3, 0))]),
  (4, [(9, (4, 0)), (15, (4, 1)), (18, (4, 2)), (21, (4, 4)), (25, (4, 3))]),
  (5, [(9, (5, 0)), (15, (5, 1)), (18, (5, 3)), (21, (5, 2)), (45, (5, 6)), (48, (5, 7)), (58, (5, 4)), (61, (5, 5)), (70, (5, 8)), (76, (5, 9))]),
  (6, [(9, (6, 0)), (15, (6, 1)), (18, (6, 2)), (21, (6, 3))]),
  (7, [(9, (7, 1)), (15, (7, 5)), (19, (7, 8)), (22, (7, 9)), (25, (7, 10)), (28, (7, 12)), (34, (7, 13)), (38, (7, 0)), (41, (7, 2)), (44, (7, 3)), (47, (7, 4)), (56, (7, 6)), (59, (7, 7)), (62, (7, 11))]),
  (8, [(9, (8, 1)), (15, (8, 0)), (19, (8, 2))]),
  (9, [(10, (9, 0)), (16, (9, 1)), (19, (9, 2)), (23, (9, 3)), (27, (9, 4)), (34, (9, 5)), (41, (9, 6)), (48, (9, 7)), (55, (9, 8)), (62, (9, 9)), (69, (9, 10))]),
  (10, [(7, (10, 0)), (13, (10, 1)), (16, (10, 2)), (19, (10, 5)), (22, (10, 6)), (25, (10, 7)), (28, (10, 8)), (31, (10, 9)), (34, (10, 10)), (37, (10, 22)), (41, (10, 24)), (44, (10, 25)), (48, (10, 27)), (52, (10, 29)), (55, (10, 30)), (58, (10, 31)), (61, (10, 32)), (68, (10, 3)), (99, (10, 13)), (102, (10, 14)), (105, (10, 16)), (153, (10, 15)), (165, (10, 17)), (168, (10, 18)), (171, (10, 19)), (180, (10, 12)), (183, (10, 21)), (214, (10, 11)), (220, (10, 20)), (267, (10, 23)), (276, (10, 26)), (288, (10, 28)), (314, (10, 4))])]
def am_NT : List (Nat × List (Nat × (Nat × Nat))) := [
  (0, [(21, (7, 7)), (30, (7, 8)), (46, (7, 6)), (53, (7, 9)), (56, (7, 10)), (63, (7, 1))]),
  (2, [(36, (6, 0)), (49, (1, 0)), (52, (6, 3)), (55, (6, 1)), (65, (1, 3)), (68, (1, 1)), (71, (1, 2)), (98, (6, 2))]),
  (3, [(33, (7, 4))]),
  (4, [(28, (7, 0)), (33, (7, 11)), (35, (7, 10)), (42, (7, 3))]),
  (5, [(25, (7, 7)), (42, (7, 8)), (64, (7, 6))]),
  (8, [(22, (7, 7)), (35, (7, 9)), (38, (7, 10)), (49, (7, 8))]),
  (9, [(73, (7, 0)), (79, (7, 4)), (86, (7, 5)), (103, (7, 7)), (136, (7, 13)), (140, (2, 1)), (147, (1, 0)), (150, (2, 5)), (153, (2, 6)), (156, (7, 3)), (170, (7, 6)), (184, (7, 8)), (187, (7, 9)), (205, (0, 0)), (208, (0, 1)), (211, (0, 2)), (220, (5, 6)), (223, (5, 7)), (229, (5, 4)), (232, (5, 3)), (235, (5, 5)), (254, (3, 0)), (257, (3, 1)), (266, (8, 0)), (269, (8, 1)), (272, (7, 11)), (275, (7, 12)), (278, (4, 4)), (286, (7, 1)), (289, (7, 2))])]
def am_CT : List (Nat × List (Nat × (Nat × Nat × Nat))) := [
  (0, [(26, (2, 4, 0)), (34, (3, 4, 0)), (42, (717, 2, 1)), (59, (713, 3, 1))]),
  (1, [(37, (104, 3, 1))]),
  (2, [(29, (601, 3, 0)), (58, (203, 2, 1)), (62, (202, 1, 0)), (74, (207, 3, 1)), (78, (204, 2, 1)), (81, (208, 2, 1)), (84, (205, 2, 0)), (88, (209, 1, 1)), (92, (210, 1, 1)), (95, (211, 2, 1))]),
  (3, [(42, (303, 2, 0)), (53, (308, 3, 1)), (60, (310, 2, 0)), (64, (304, 3, 1)), (73, (718, 3, 1)), (77, (305, 4, 0)), (93, (311, 4, 1))]),
  (5, [(30, (503, 3, 0)), (34, (717, 2, 1)), (38, (711, 2, 1)), (51, (506, 2, 1)), (54, (501, 2, 0)), (67, (508, 2, 1)), (73, (511, 2, 1)), (79, (510, 4, 1))]),
  (6, [(36, (602, 3, 0)), (61, (1400, 1, 1)), (67, (1401, 2, 1))]),
  (7, [(65, (101, 2, 0)), (69, (702, 2, 1)), (73, (708, 3, 0)), (81, (711, 2, 1)), (85, (712, 3, 1)), (89, (718, 3, 1)), (97, (102, 3, 0)), (100, (719, 3, 1)), (104, (103, 1, 1)), (108, (721, 3, 1)), (111, (713, 3, 1)), (116, (722, 2, 1)), (119, (724, 2, 1)), (122, (725, 4, 0))]),
  (8, [(27, (717, 2, 1)), (31, (802, 4, 0)), (45, (804, 5, 0)), (52, (711, 2, 1)), (56, (718, 3, 1))]),
  (9, [(76, (401, 1, 0)), (90, (929, 2, 1)), (93, (930, 2, 1)), (96, (931, 3, 1)), (100, (932, 3, 1)), (106, (705, 5, 1)), (110, (706, 5, 1)), (114, (703, 2, 1)), (117, (707, 3, 0)), (121, (933, 2, 0)), (125, (212, 3, 0)), (129, (213, 1, 1)), (133, (206, 1, 1)), (141, (101, 2, 0)), (159, (402, 2, 0)), (163, (723, 1, 1)), (167, (702, 2, 1)), (173, (713, 3, 1)), (177, (714, 2, 1)), (181, (715, 2, 1)), (190, (717, 2, 1)), (193, (710, 3, 1)), (196, (704, 2, 1)), (199, (718, 3, 1)), (202, (1, 2, 0)), (214, (502, 2, 0)), (217, (505, 2, 0)), (226, (507, 2, 0)), (238, (501, 2, 0)), (241, (504, 1, 1)), (244, (509, 3, 1)), (247, (716, 1, 1)), (250, (301, 3, 0)), (260, (720, 3, 1)), (263, (801, 2, 0)), (281, (403, 2, 0)), (284, (701, 2, 0))]),
  (10, [(71, (1008, 1, 0)), (76, (1002, 2, 1)), (80, (1013, 5, 1)), (84, (1006, 4, 0)), (88, (1005, 3, 1)), (92, (1003, 2, 1)), (95, (1015, 3, 0)), (108, (1400, 1, 1)), (114, (1401, 2, 1)), (120, (1023, 2, 1)), (146, (1024, 1, 1)), (149, (1020, 2, 1)), (159, (1025, 1, 1)), (174, (1027, 2, 1)), (177, (1026, 1, 0)), (186, (1032, 1, 1)), (190, (1029, 3, 0)), (193, (1033, 1, 1)), (196, (1035, 1, 1)), (199, (1036, 1, 1)), (202, (1030, 1, 1)), (205, (1034, 1, 1)), (208, (1028, 2, 1)), (211, (1031, 1, 1)), (217, (1037, 1, 1)), (227, (1042, 2, 1)), (233, (1041, 3, 1)), (236, (1044, 2, 1)), (239, (1043, 3, 1)), (243, (1004, 2, 1)), (246, (1010, 2, 1)), (249, (1050, 4, 0)), (252, (1048, 1, 0)), (255, (1051, 1, 1)), (258, (1046, 3, 1)), (261, (1053, 2, 1)), (264, (1045, 2, 1)), (270, (1056, 3, 1)), (273, (1057, 2, 1)), (279, (1059, 1, 0)), (282, (1060, 2, 1)), (285, (1062, 1, 1)), (291, (1064, 1, 1)), (294, (1065, 2, 1)), (300, (1070, 5, 1)), (304, (1071, 2, 0)), (308, (1074, 5, 1)), (311, (1075, 1, 1))]),
  (11, [(13, (901, 2, 1)), (17, (1009, 2, 1)), (18, (902, 2, 1)), (21, (1011, 2, 1)), (22, (903, 4, 1)), (26, (1012, 4, 1)), (27, (904, 5, 1)), (31, (1014, 5, 1)), (32, (905, 2, 1)), (36, (1016, 2, 1)), (37, (906, 3, 1)), (41, (1017, 3, 1)), (42, (907, 6, 1)), (46, (1018, 6, 1)), (47, (908, 2, 1)), (50, (1019, 2, 1)), (51, (909, 1, 1)), (55, (1038, 1, 1)), (56, (910, 2, 1)), (59, (1039, 2, 1)), (60, (911, 2, 1)), (63, (1052, 2, 1)), (64, (912, 3, 1)), (68, (1054, 3, 1)), (69, (913, 3, 1)), (72, (1055, 3, 1)), (73, (914, 3, 1)), (76, (1047, 3, 1)), (77, (915, 2, 1)), (80, (1058, 2, 1)), (81, (916, 3, 1)), (84, (1061, 3, 1)), (85, (917, 2, 1)), (88, (1066, 2, 1)), (89, (918, 1, 1)), (92, (1067, 1, 1)), (93, (919, 1, 1)), (96, (1068, 1, 1)), (97, (920, 1, 1)), (100, (1063, 1, 1)), (101, (921, 3, 1)), (104, (1072, 3, 1)), (105, (922, 3, 1)), (108, (1073, 3, 1)), (109, (923, 2, 1)), (112, (1076, 2, 1)), (113, (924, 3, 1)), (116, (1077, 3, 1)), (117, (925, 1, 1)), (121, (1049, 1, 1)), (122, (926, 2, 1)), (126, (1078, 2, 1)), (127, (927, 2, 1)), (130, (1079, 2, 1))]),
  (14, [(335, (1402, 1, 1)), (492, (1403, 1, 1))])]
def am_CS : List (Nat × List (Nat × (Nat × Nat × Nat))) := [
  (0, [(38, (4, 2, 1)), (49, (5, 3, 1))]),
  (1, [(31, (2004, 5, 0))]),
  (3, [(49, (306, 1, 1)), (68, (1200, 1, 1)), (81, (309, 1, 1)), (84, (307, 2, 1)), (87, (2001, 2, 1))]),
  (4, [(36, (2004, 5, 0))]),
  (6, [(25, (603, 3, 1)), (29, (607, 1, 1)), (33, (604, 3, 1)), (40, (609, 1, 1)), (43, (605, 3, 1)), (46, (608, 1, 1)), (49, (611, 1, 1)), (53, (610, 1, 2)), (57, (606, 4, 1))]),
  (7, [(50, (2004, 5, 0)), (77, (709, 3, 0)), (92, (1200, 1, 1))]),
  (8, [(41, (803, 4, 1))]),
  (9, [(82, (928, 1, 1))]),
  (10, [(64, (1001, 3, 1)), (156, (1021, 1, 1)), (162, (1022, 1, 1)), (223, (1040, 3, 1)), (230, (1007, 1, 1)), (297, (1069, 3, 1))]),
  (14, [(495, (1500, 2, 1)), (1059, (1600, 3, 1))]),
  (15, [(9, (1404, 2, 0))])]
def am_IT : List (Nat × List (Nat × Int32)) := [
  (3, [(92, -1640531535)]),
  (7, [(114, 1664525), (115, 1013904223)]),
  (10, [(74, 1664525), (75, 1013904223)]),
  (12, [(265, 1431655765), (266, 858993459), (267, 252645135)])]
def am_ST : List (Nat × List (Nat × Nat)) := [
  (6, [(71, 0), (73, 1), (75, 2), (77, 3), (79, 4), (81, 5), (83, 6), (85, 7), (87, 8), (89, 9), (91, 10), (93, 11), (95, 12)]),
  (10, [(118, 6), (124, 7), (126, 8), (128, 9), (130, 10), (132, 11), (134, 2), (136, 3), (138, 4), (140, 5), (142, 0), (144, 1)])]
def am_b1 : List (Nat × List (Instr × Nat)) := [
  (0, [(.aload_n 0, 1), (.iconst 0, 1), (.putfield 9, 3), (.aload_n 0, 1), (.iconst (-1), 1), (.putfield 15, 3), (.aload_n 0, 1), (.iconst (-1), 1), (.putfield 18, 3), (.iconst 0, 1), (.istore_n 2, 1), (.iconst 0, 1), (.istore_n 3, 1)]),
  (19, [(.iload_n 3, 1), (.aload_n 1, 1), (.getfield 21, 3), (.if_icmp .ge 34, 3), (.aload_n 0, 1), (.getfield 9, 3), (.ifCond .ne 27, 3), (.aload_n 0, 1), (.aload_n 1, 1), (.iload_n 3, 1), (.iload_n 2, 1), (.invokevirtual 26, 3), (.iload_n 2, 1), (.iconst 1, 1), (.aload_n 1, 1), (.getfield 30, 3), (.iload_n 3, 1), (.iaload, 1), (.ishl, 1), (.ior, 1), (.istore_n 2, 1), (.iinc 3 1, 3), (.goto (-36), 3)]),
  (58, [(.return_, 1)])]
def am_b2 : List (Nat × List (Instr × Nat)) := [
  (0, [(.iload_n 3, 1), (.aload_n 1, 1), (.getfield 30, 3), (.iload_n 2, 1), (.iaload, 1), (.ishr, 1), (.iconst 1, 1), (.iand, 1), (.ifCond .eq 11, 3), (.aload_n 0, 1), (.iconst 1, 1), (.iload_n 2, 1), (.iconst (-1), 1), (.invokevirtual 34, 3), (.return_, 1)]),
  (21, [(.aload_n 1, 1), (.iload_n 2, 1), (.invokestatic 38, 3), (.istore 4, 2), (.iload 4, 2), (.iconst (-1), 1), (.if_icmp .eq 12, 3), (.aload_n 0, 1), (.iconst 2, 1), (.iload_n 2, 1), (.iload 4, 2), (.invokevirtual 34, 3), (.return_, 1)]),
  (43, [(.aload_n 1, 1), (.iload_n 2, 1), (.invokevirtual 42, 3), (.ifCond .ne 11, 3), (.aload_n 0, 1), (.iconst 3, 1), (.iload_n 2, 1), (.iconst (-1), 1), (.invokevirtual 34, 3), (.return_, 1)]),
  (59, [(.aload_n 1, 1), (.iload_n 2, 1), (.aload_n 1, 1), (.getfield 46, 3), (.iload_n 3, 1), (.ior, 1), (.invokestatic 49, 3), (.istore 5, 2), (.iload 5, 2), (.iconst (-1), 1), (.if_icmp .eq 11, 3), (.aload_n 0, 1), (.iconst 4, 1), (.iload_n 2, 1), (.iload 5, 2), (.invokevirtual 34, 3)]),
  (86, [(.return_, 1)])]
def am_b3 : List (Nat × List (Instr × Nat)) := [
  (0, [(.aload_n 0, 1), (.iload_n 1, 1), (.putfield 9, 3), (.aload_n 0, 1), (.iload_n 2, 1), (.putfield 15, 3), (.aload_n 0, 1), (.iload_n 3, 1), (.putfield 18, 3), (.return_, 1)])]
def am_b4 : List (Nat × List (Instr × Nat)) := [
  (0, [(.iconst 0, 1), (.istore_n 2, 1)]),
  (2, [(.iload_n 2, 1), (.aload_n 0, 1), (.getfield 53, 3), (.iload_n 1, 1), (.iaload, 1), (.if_icmp .ge 35, 3), (.aload_n 0, 1), (.getfield 56, 3), (.iload_n 1, 1), (.iconst 3, 1), (.imul, 1), (.iload_n 2, 1), (.iadd, 1), (.iaload, 1), (.istore_n 3, 1), (.aload_n 0, 1), (.iload_n 3, 1), (.iload_n 1, 1), (.invokevirtual 59, 3), (.aload_n 0, 1), (.getfield 63, 3), (.if_icmp .lt 5, 3), (.iload_n 3, 1), (.ireturn, 1)]),
  (38, [(.iinc 2 1, 3), (.goto (-39), 3)]),
  (44, [(.iconst (-1), 1), (.ireturn, 1)])]
def am_b5 : List (Nat × List (Instr × Nat)) := [
  (0, [(.iconst 0, 1), (.istore_n 3, 1)]),
  (2, [(.iload_n 3, 1), (.aload_n 0, 1), (.getfield 53, 3), (.iload_n 1, 1), (.iaload, 1), (.if_icmp .ge 33, 3), (.aload_n 0, 1), (.getfield 56, 3), (.iload_n 1, 1), (.iconst 3, 1), (.imul, 1), (.iload_n 3, 1), (.iadd, 1), (.iaload, 1), (.istore 4, 2), (.iload_n 2, 1), (.iload 4, 2), (.ishr, 1), (.iconst 1, 1), (.iand, 1), (.ifCond .ne 6, 3), (.iload 4, 2), (.ireturn, 1)]),
  (36, [(.iinc 3 1, 3), (.goto (-37), 3)]),
  (42, [(.iconst (-1), 1), (.ireturn, 1)])]
def am_b101 : List (Nat × List (Instr × Nat)) := [
  (0, [(.aload_n 0, 1), (.aload_n 1, 1), (.getfield 27, 3), (.putfield 27, 3), (.aload_n 1, 1), (.getfield 9, 3), (.iconst 0, 1), (.aload_n 0, 1), (.getfield 9, 3), (.iconst 0, 1), (.aload_n 0, 1), (.getfield 9, 3), (.arraylength, 1), (.invokestatic 31, 3), (.aload_n 1, 1), (.getfield 15, 3), (.iconst 0, 1), (.aload_n 0, 1), (.getfield 15, 3), (.iconst 0, 1), (.aload_n 0, 1), (.getfield 15, 3), (.arraylength, 1), (.invokestatic 31, 3), (.aload_n 1, 1), (.getfield 18, 3), (.iconst 0, 1), (.aload_n 0, 1), (.getfield 18, 3), (.iconst 0, 1), (.aload_n 0, 1), (.getfield 18, 3), (.arraylength, 1), (.invokestatic 31, 3), (.return_, 1)])]
def am_b102 : List (Nat × List (Instr × Nat)) := [
  (0, [(.iload_n 1, 1), (.bipush 9, 2), (.if_icmp .lt 19, 3), (.iload_n 1, 1), (.bipush 14, 2), (.if_icmp .gt 13, 3), (.aload_n 0, 1), (.getfield 21, 3), (.iload_n 1, 1), (.bipush 9, 2), (.isub, 1), (.iload_n 2, 1), (.iastore, 1)]),
  (22, [(.return_, 1)])]
def am_b103 : List (Nat × List (Instr × Nat)) := [
  (0, [(.iconst 0, 1), (.istore_n 1, 1)]),
  (2, [(.iload_n 1, 1), (.aload_n 0, 1), (.getfield 27, 3), (.if_icmp .ge 77, 3), (.iconst 0, 1), (.istore_n 2, 1), (.aload_n 0, 1), (.getfield 15, 3), (.iload_n 1, 1), (.iaload, 1), (.istore_n 3, 1)]),
  (19, [(.iload_n 3, 1), (.aload_n 0, 1), (.getfield 15, 3), (.iload_n 1, 1), (.iconst 1, 1), (.iadd, 1), (.iaload, 1), (.if_icmp .ge 21, 3), (.aload_n 0, 1), (.aload_n 0, 1), (.getfield 18, 3), (.iload_n 3, 1), (.iaload, 1), (.iload_n 2, 1), (.invokevirtual 37, 3), (.istore_n 2, 1), (.iinc 3 1, 3), (.goto (-27), 3)]),
  (49, [(.iload_n 2, 1), (.ifCond .eq 12, 3), (.aload_n 0, 1), (.getfield 24, 3), (.iconst 0, 1), (.iaload, 1), (.ifCond .eq 19, 3)]),
  (62, [(.aload_n 0, 1), (.getfield 9, 3), (.iload_n 1, 1), (.iaload, 1), (.iconst 1, 1), (.if_icmp .ne 7, 3), (.iconst 1, 1), (.goto 4, 3)]),
  (76, [(.iconst 0, 1)]),
  (77, [(.ireturn, 1)]),
  (78, [(.iinc 1 1, 3), (.goto (-79), 3)]),
  (84, [(.iconst 0, 1), (.ireturn, 1)])]
def am_b104 : List (Nat × List (Instr × Nat)) := [
  (0, [(.iload_n 1, 1), (.sipush 10000, 3), (.isub, 1), (.istore_n 3, 1), (.iload_n 3, 1), (.ifCond .lt 15, 3), (.iload_n 3, 1), (.bipush 9, 2), (.if_icmp .lt 47, 3), (.iload_n 3, 1), (.bipush 14, 2), (.if_icmp .gt 41, 3)]),
  (22, [(.iload_n 2, 1), (.aload_n 0, 1), (.getfield 24, 3), (.arraylength, 1), (.if_icmp .lt 5, 3), (.iload_n 2, 1), (.ireturn, 1)]),
  (33, [(.aload_n 0, 1), (.getfield 24, 3), (.iload_n 2, 1), (.iload_n 3, 1), (.ifCond .ge 7, 3), (.iload_n 1, 1), (.goto 12, 3)]),
  (46, [(.aload_n 0, 1), (.getfield 21, 3), (.iload_n 3, 1), (.bipush 9, 2), (.isub, 1), (.iaload, 1)]),
  (55, [(.iastore, 1), (.iload_n 2, 1), (.iconst 1, 1), (.iadd, 1), (.ireturn, 1)]),
  (60, [(.iload_n 3, 1), (.bipush 8, 2), (.if_icmp .ne 28, 3), (.iload_n 2, 1), (.iconst 1, 1), (.if_icmp .lt 23, 3), (.aload_n 0, 1), (.getfield 24, 3), (.iload_n 2, 1), (.iconst 1, 1), (.isub, 1), (.iconst 1, 1), (.aload_n 0, 1), (.getfield 24, 3), (.iload_n 2, 1), (.iconst 1, 1), (.isub, 1), (.iaload, 1), (.isub, 1), (.iastore, 1), (.iload_n 2, 1), (.ireturn, 1)]),
  (91, [(.iload_n 2, 1), (.iconst 2, 1), (.if_icmp .ge 5, 3), (.iload_n 2, 1), (.ireturn, 1)]),
  (98, [(.aload_n 0, 1), (.getfield 24, 3), (.iload_n 2, 1), (.iconst 2, 1), (.isub, 1), (.iaload, 1), (.istore 4, 2), (.aload_n 0, 1), (.getfield 24, 3), (.iload_n 2, 1), (.iconst 1, 1), (.isub, 1), (.iaload, 1), (.istore 5, 2), (.iload_n 3, 1), (.tableswitch 195 7 24 #[185, 195, 195, 195, 195, 195, 195, 195, 195, 85, 95, 105, 115, 195, 195, 134, 151, 168], 85)]),
  (204, [(.iload 4, 2), (.iload 5, 2), (.iadd, 1), (.istore 6, 2), (.goto 110, 3)]),
  (214, [(.iload 4, 2), (.iload 5, 2), (.isub, 1), (.istore 6, 2), (.goto 100, 3)]),
  (224, [(.iload 4, 2), (.iload 5, 2), (.imul, 1), (.istore 6, 2), (.goto 90, 3)]),
  (234, [(.iload 5, 2), (.ifCond .ne 7, 3), (.iconst 0, 1), (.goto 8, 3)]),
  (243, [(.iload 4, 2), (.iload 5, 2), (.idiv, 1)]),
  (248, [(.istore 6, 2), (.goto 71, 3)]),
  (253, [(.iload 4, 2), (.iload 5, 2), (.if_icmp .ge 7, 3), (.iconst 1, 1), (.goto 4, 3)]),
  (264, [(.iconst 0, 1)]),
  (265, [(.istore 6, 2), (.goto 54, 3)]),
  (270, [(.iload 4, 2), (.iload 5, 2), (.if_icmp .ne 7, 3), (.iconst 1, 1), (.goto 4, 3)]),
  (281, [(.iconst 0, 1)]),
  (282, [(.istore 6, 2), (.goto 37, 3)]),
  (287, [(.iload 4, 2), (.iload 5, 2), (.if_icmp .le 7, 3), (.iconst 1, 1), (.goto 4, 3)]),
  (298, [(.iconst 0, 1)]),
  (299, [(.istore 6, 2), (.goto 20, 3)]),
  (304, [(.iload 4, 2), (.iload 5, 2), (.iand, 1), (.istore 6, 2), (.goto 10, 3)]),
  (314, [(.iload 4, 2), (.iload 5, 2), (.ior, 1), (.istore 6, 2)]),
  (321, [(.aload_n 0, 1), (.getfield 24, 3), (.iload_n 2, 1), (.iconst 2, 1), (.isub, 1), (.iload 6, 2), (.iastore, 1), (.iload_n 2, 1), (.iconst 1, 1), (.isub, 1), (.ireturn, 1)])]
def am_b202 : List (Nat × List (Instr × Nat)) := [
  (0, [(.aload_n 0, 1), (.getfield 33, 3), (.iconst 1, 1), (.iadd, 1), (.aload_n 0, 1), (.getfield 12, 3), (.getfield 52, 3), (.if_icmp .ge 13, 3), (.aload_n 0, 1), (.dup, 1), (.getfield 33, 3), (.iconst 1, 1), (.iadd, 1), (.putfield 33, 3)]),
  (26, [(.aload_n 0, 1), (.aload_n 0, 1), (.getfield 12, 3), (.getfield 36, 3), (.aload_n 0, 1), (.getfield 33, 3), (.iaload, 1), (.putfield 40, 3), (.return_, 1)])]
def am_b203 : List (Nat × List (Instr × Nat)) := [
  (0, [(.aload_n 0, 1), (.iload_n 1, 1), (.putfield 46, 3), (.aload_n 0, 1), (.aload_n 0, 1), (.getfield 12, 3), (.getfield 55, 3), (.aload_n 0, 1), (.getfield 33, 3), (.iaload, 1), (.putfield 25, 3), (.iconst 0, 1), (.ireturn, 1)])]
def am_b204 : List (Nat × List (Instr × Nat)) := [
  (0, [(.aload_n 0, 1), (.getfield 40, 3), (.iload_n 1, 1), (.if_icmp .eq 9, 3), (.aload_n 0, 1), (.iconst 1, 1), (.invokevirtual 58, 3), (.ireturn, 1)]),
  (14, [(.aload_n 0, 1), (.invokevirtual 62, 3), (.iconst 1, 1), (.ireturn, 1)])]
def am_b205 : List (Nat × List (Instr × Nat)) := [
  (0, [(.aload_n 0, 1), (.getfield 43, 3), (.aload_n 0, 1), (.getfield 21, 3), (.getfield 65, 3), (.arraylength, 1), (.if_icmp .ge 26, 3), (.aload_n 0, 1), (.getfield 21, 3), (.getfield 65, 3), (.aload_n 0, 1), (.getfield 43, 3), (.iload_n 1, 1), (.iastore, 1), (.aload_n 0, 1), (.dup, 1), (.getfield 43, 3), (.iconst 1, 1), (.iadd, 1), (.putfield 43, 3)]),
  (38, [(.return_, 1)])]
def am_b206 : List (Nat × List (Instr × Nat)) := [
  (0, [(.aload_n 0, 1), (.getfield 40, 3), (.iconst 3, 1), (.if_icmp .eq 17, 3), (.aload_n 0, 1), (.getfield 40, 3), (.iconst 4, 1), (.if_icmp .eq 9, 3), (.aload_n 0, 1), (.iconst 1, 1), (.invokevirtual 58, 3), (.ireturn, 1)]),
  (22, [(.aload_n 0, 1), (.getfield 21, 3), (.getfield 49, 3), (.bipush 16, 2), (.if_icmp .lt 9, 3), (.aload_n 0, 1), (.iconst 3, 1), (.invokevirtual 58, 3), (.ireturn, 1)]),
  (40, [(.aload_n 0, 1), (.getfield 21, 3), (.getfield 68, 3), (.aload_n 0, 1), (.getfield 21, 3), (.getfield 49, 3), (.aload_n 0, 1), (.getfield 40, 3), (.iconst 3, 1), (.if_icmp .ne 7, 3), (.iconst 1, 1), (.goto 4, 3)]),
  (66, [(.iconst 0, 1)]),
  (67, [(.iastore, 1), (.aload_n 0, 1), (.getfield 21, 3), (.getfield 71, 3), (.aload_n 0, 1), (.getfield 21, 3), (.getfield 49, 3), (.aload_n 0, 1), (.getfield 43, 3), (.iastore, 1), (.aload_n 0, 1), (.invokevirtual 62, 3), (.aload_n 0, 1), (.getfield 40, 3), (.iconst 5, 1), (.if_icmp .ne 19, 3), (.aload_n 0, 1), (.invokevirtual 62, 3), (.aload_n 0, 1), (.bipush 6, 2), (.iconst 0, 1), (.invokevirtual 74, 3), (.ifCond .ne 5, 3), (.iconst 0, 1), (.ireturn, 1)]),
  (115, [(.aload_n 0, 1), (.getfield 21, 3), (.dup, 1), (.getfield 49, 3), (.iconst 1, 1), (.iadd, 1), (.putfield 49, 3), (.aload_n 0, 1), (.getfield 21, 3), (.getfield 71, 3), (.aload_n 0, 1), (.getfield 21, 3), (.getfield 49, 3), (.aload_n 0, 1), (.getfield 43, 3), (.iastore, 1), (.aload_n 0, 1), (.bipush 15, 2), (.invokevirtual 78, 3), (.ireturn, 1)])]
def am_b207 : List (Nat × List (Instr × Nat)) := [
  (0, [(.iconst 0, 1), (.istore_n 3, 1)]),
  (2, [(.iload_n 3, 1), (.sipush 400, 3), (.if_icmp .ge 66, 3), (.iload_n 1, 1), (.bipush 6, 2), (.if_icmp .ne 13, 3), (.aload_n 0, 1), (.bipush 7, 2), (.iload_n 2, 1), (.invokevirtual 74, 3), (.goto 8, 3)]),
  (25, [(.aload_n 0, 1), (.iload_n 2, 1), (.invokevirtual 81, 3)]),
  (30, [(.istore 4, 2), (.iload 4, 2), (.ifCond .ne 5, 3), (.iconst 0, 1), (.ireturn, 1)]),
  (39, [(.iload_n 3, 1), (.ifCond .le 12, 3), (.aload_n 0, 1), (.sipush 10000, 3), (.iload_n 1, 1), (.iadd, 1), (.invokevirtual 84, 3)]),
  (52, [(.aload_n 0, 1), (.getfield 40, 3), (.iload_n 1, 1), (.if_icmp .eq 5, 3), (.iconst 1, 1), (.ireturn, 1)]),
  (62, [(.aload_n 0, 1), (.invokevirtual 62, 3), (.iinc 3 1, 3), (.goto (-67), 3)]),
  (72, [(.iconst 1, 1), (.ireturn, 1)])]
def am_b208 : List (Nat × List (Instr × Nat)) := [
  (0, [(.aload_n 0, 1), (.getfield 40, 3), (.bipush 8, 2), (.if_icmp .eq 17, 3), (.aload_n 0, 1), (.getfield 40, 3), (.bipush 20, 2), (.if_icmp .eq 8, 3), (.aload_n 0, 1), (.invokevirtual 88, 3), (.ireturn, 1)]),
  (23, [(.iload_n 1, 1), (.bipush 8, 2), (.if_icmp .lt 9, 3), (.aload_n 0, 1), (.iconst 3, 1), (.invokevirtual 58, 3), (.ireturn, 1)]),
  (35, [(.aload_n 0, 1), (.getfield 40, 3), (.bipush 8, 2), (.if_icmp .ne 7, 3), (.iconst 1, 1), (.goto 4, 3)]),
  (48, [(.iconst 0, 1)]),
  (49, [(.istore_n 2, 1), (.aload_n 0, 1), (.invokevirtual 62, 3), (.iload_n 2, 1), (.ifCond .ne 30, 3), (.aload_n 0, 1), (.bipush 6, 2), (.iload_n 1, 1), (.iconst 1, 1), (.iadd, 1), (.invokevirtual 74, 3), (.ifCond .eq 16, 3), (.aload_n 0, 1), (.bipush 21, 2), (.invokevirtual 78, 3), (.ifCond .eq 7, 3), (.iconst 1, 1), (.goto 4, 3)]),
  (83, [(.iconst 0, 1)]),
  (84, [(.ireturn, 1)]),
  (85, [(.aload_n 0, 1), (.iload_n 1, 1), (.iconst 1, 1), (.iadd, 1), (.invokevirtual 81, 3), (.ifCond .ne 5, 3), (.iconst 0, 1), (.ireturn, 1)]),
  (97, [(.aload_n 0, 1), (.sipush 10008, 3), (.invokevirtual 84, 3), (.iconst 1, 1), (.ireturn, 1)])]
def am_b209 : List (Nat × List (Instr × Nat)) := [
  (0, [(.aload_n 0, 1), (.invokevirtual 92, 3), (.ifCond .ne 5, 3), (.iconst 0, 1), (.ireturn, 1)]),
  (9, [(.aload_n 0, 1), (.getfield 40, 3), (.istore_n 1, 1), (.iload_n 1, 1), (.bipush 22, 2), (.if_icmp .eq 21, 3), (.iload_n 1, 1), (.bipush 23, 2), (.if_icmp .eq 15, 3), (.iload_n 1, 1), (.bipush 24, 2), (.if_icmp .eq 9, 3), (.aload_n 0, 1), (.iconst 1, 1), (.invokevirtual 58, 3), (.ireturn, 1)]),
  (38, [(.aload_n 0, 1), (.invokevirtual 62, 3), (.aload_n 0, 1), (.invokevirtual 92, 3), (.ifCond .ne 5, 3), (.iconst 0, 1), (.ireturn, 1)]),
  (51, [(.aload_n 0, 1), (.sipush 10000, 3), (.iload_n 1, 1), (.iadd, 1), (.invokevirtual 84, 3), (.iconst 1, 1), (.ireturn, 1)])]
def am_b210 : List (Nat × List (Instr × Nat)) := [
  (0, [(.iconst 0, 1), (.istore_n 1, 1), (.iconst 0, 1), (.istore_n 2, 1), (.iconst 0, 1), (.istore_n 3, 1)]),
  (6, [(.iload_n 3, 1), (.sipush 400, 3), (.if_icmp .ge 105, 3), (.aload_n 0, 1), (.iload_n 2, 1), (.invokevirtual 95, 3), (.ifCond .ne 5, 3), (.iconst 0, 1), (.ireturn, 1)]),
  (23, [(.iload_n 2, 1), (.ifCond .eq 12, 3), (.aload_n 0, 1), (.sipush 10000, 3), (.iload_n 2, 1), (.iadd, 1), (.invokevirtual 84, 3)]),
  (36, [(.aload_n 0, 1), (.getfield 40, 3), (.bipush 18, 2), (.if_icmp .eq 12, 3), (.aload_n 0, 1), (.getfield 40, 3), (.bipush 19, 2), (.if_icmp .ne 10, 3)]),
  (54, [(.aload_n 0, 1), (.getfield 40, 3), (.goto 4, 3)]),
  (61, [(.iconst 0, 1)]),
  (62, [(.istore_n 2, 1), (.iload_n 2, 1), (.ifCond .ne 41, 3), (.iload_n 1, 1), (.ifCond .eq 12, 3), (.aload_n 0, 1), (.sipush 10000, 3), (.iload_n 1, 1), (.iadd, 1), (.invokevirtual 84, 3)]),
  (80, [(.aload_n 0, 1), (.getfield 40, 3), (.bipush 16, 2), (.if_icmp .eq 14, 3), (.aload_n 0, 1), (.getfield 40, 3), (.bipush 17, 2), (.if_icmp .eq 5, 3), (.iconst 1, 1), (.ireturn, 1)]),
  (100, [(.aload_n 0, 1), (.getfield 40, 3), (.istore_n 1, 1)]),
  (105, [(.aload_n 0, 1), (.invokevirtual 62, 3), (.iinc 3 1, 3), (.goto (-106), 3)]),
  (115, [(.iconst 1, 1), (.ireturn, 1)])]
def am_b211 : List (Nat × List (Instr × Nat)) := [
  (0, [(.aload_n 0, 1), (.getfield 40, 3), (.iconst 2, 1), (.if_icmp .ne 40, 3), (.aload_n 0, 1), (.getfield 12, 3), (.getfield 98, 3), (.aload_n 0, 1), (.getfield 33, 3), (.iaload, 1), (.istore_n 2, 1), (.iload_n 1, 1), (.bipush 19, 2), (.if_icmp .ne 13, 3), (.iload_n 2, 1), (.ifCond .ne 9, 3), (.aload_n 0, 1), (.iconst 2, 1), (.invokevirtual 58, 3), (.ireturn, 1)]),
  (37, [(.aload_n 0, 1), (.iload_n 2, 1), (.invokevirtual 84, 3), (.goto 48, 3)]),
  (45, [(.iload_n 1, 1), (.bipush 19, 2), (.if_icmp .eq 36, 3), (.aload_n 0, 1), (.getfield 40, 3), (.bipush 9, 2), (.if_icmp .lt 27, 3), (.aload_n 0, 1), (.getfield 40, 3), (.bipush 14, 2), (.if_icmp .gt 18, 3), (.aload_n 0, 1), (.sipush 10000, 3), (.aload_n 0, 1), (.getfield 40, 3), (.iadd, 1), (.invokevirtual 84, 3), (.goto 9, 3)]),
  (84, [(.aload_n 0, 1), (.iconst 1, 1), (.invokevirtual 58, 3), (.ireturn, 1)]),
  (90, [(.aload_n 0, 1), (.invokevirtual 62, 3), (.iconst 1, 1), (.ireturn, 1)])]
def am_b212 : List (Nat × List (Instr × Nat)) := [
  (0, [(.aload_n 0, 1), (.getfield 12, 3), (.aload_n 1, 1), (.iload_n 2, 1), (.invokevirtual 29, 3), (.aload_n 0, 1), (.iconst 0, 1), (.putfield 33, 3), (.aload_n 0, 1), (.aload_n 0, 1), (.getfield 12, 3), (.getfield 36, 3), (.iconst 0, 1), (.iaload, 1), (.putfield 40, 3), (.aload_n 0, 1), (.iconst 0, 1), (.putfield 43, 3), (.aload_n 0, 1), (.iconst 0, 1), (.putfield 46, 3), (.aload_n 0, 1), (.iconst (-1), 1), (.putfield 25, 3), (.aload_n 0, 1), (.getfield 21, 3), (.iconst 0, 1), (.putfield 49, 3), (.return_, 1)])]
def am_b213 : List (Nat × List (Instr × Nat)) := [
  (0, [(.aload_n 0, 1), (.getfield 40, 3), (.ifCond .eq 7, 3), (.iconst 1, 1), (.goto 4, 3)]),
  (11, [(.iconst 0, 1)]),
  (12, [(.ireturn, 1)])]
def am_b301 : List (Nat × List (Instr × Nat)) := [
  (0, [(.aload_n 0, 1), (.aload_n 1, 1), (.getfield 33, 3), (.putfield 39, 3), (.aload_n 0, 1), (.aload_n 1, 1), (.invokevirtual 42, 3), (.aload_n 0, 1), (.dup, 1), (.getfield 46, 3), (.iconst 1, 1), (.iadd, 1), (.putfield 46, 3), (.iload_n 2, 1), (.iconst 1, 1), (.aload_n 0, 1), (.getfield 39, 3), (.ishl, 1), (.iconst 1, 1), (.isub, 1), (.invokestatic 49, 3), (.imul, 1), (.istore_n 3, 1), (.aload_n 0, 1), (.aload_n 0, 1), (.iconst 0, 1), (.iload_n 3, 1), (.invokevirtual 53, 3), (.putfield 57, 3), (.aload_n 0, 1), (.iload_n 3, 1), (.invokevirtual 60, 3), (.return_, 1)])]
def am_b303 : List (Nat × List (Instr × Nat)) := [
  (0, [(.iconst 0, 1), (.istore_n 2, 1)]),
  (2, [(.iload_n 2, 1), (.aload_n 0, 1), (.getfield 39, 3), (.if_icmp .ge 86, 3), (.aload_n 0, 1), (.getfield 18, 3), (.iload_n 2, 1), (.iconst 0, 1), (.iastore, 1), (.aload_n 0, 1), (.getfield 24, 3), (.iload_n 2, 1), (.iconst 0, 1), (.iastore, 1), (.aload_n 0, 1), (.aload_n 1, 1), (.iload_n 2, 1), (.invokevirtual 64, 3), (.istore_n 3, 1), (.iconst 1, 1), (.istore 4, 2)]),
  (34, [(.iload 4, 2), (.iconst 1, 1), (.aload_n 0, 1), (.getfield 39, 3), (.ishl, 1), (.if_icmp .ge 45, 3), (.iload 4, 2), (.invokestatic 68, 3), (.iconst 2, 1), (.if_icmp .gt 30, 3), (.iload 4, 2), (.iload_n 2, 1), (.ishr, 1), (.iconst 1, 1), (.iand, 1), (.ifCond .ne 21, 3), (.aload_n 1, 1), (.iload_n 2, 1), (.iload 4, 2), (.invokevirtual 73, 3), (.ifCond .eq 11, 3), (.aload_n 0, 1), (.iload_n 2, 1), (.iload 4, 2), (.iload_n 3, 1), (.invokevirtual 77, 3)]),
  (81, [(.iinc 4 1, 3), (.goto (-50), 3)]),
  (87, [(.iinc 2 1, 3), (.goto (-88), 3)]),
  (93, [(.aload_n 0, 1), (.getfield 27, 3), (.aload_n 0, 1), (.getfield 39, 3), (.iconst 0, 1), (.iastore, 1), (.aload_n 0, 1), (.getfield 39, 3), (.iconst 1, 1), (.isub, 1), (.istore_n 2, 1)]),
  (110, [(.iload_n 2, 1), (.ifCond .lt 38, 3), (.aload_n 0, 1), (.getfield 27, 3), (.iload_n 2, 1), (.aload_n 0, 1), (.getfield 27, 3), (.iload_n 2, 1), (.iconst 1, 1), (.iadd, 1), (.iaload, 1), (.aload_n 0, 1), (.getfield 18, 3), (.iload_n 2, 1), (.iaload, 1), (.ifCond .le 7, 3), (.iconst 1, 1), (.goto 4, 3)]),
  (140, [(.iconst 0, 1)]),
  (141, [(.iadd, 1), (.iastore, 1), (.iinc 2 (-1), 3), (.goto (-36), 3)]),
  (149, [(.return_, 1)])]
def am_b304 : List (Nat × List (Instr × Nat)) := [
  (0, [(.iconst 0, 1), (.istore_n 3, 1), (.iconst 0, 1), (.istore 4, 2)]),
  (5, [(.iload 4, 2), (.aload_n 0, 1), (.getfield 39, 3), (.if_icmp .ge 34, 3), (.iload 4, 2), (.iload_n 2, 1), (.if_icmp .eq 22, 3), (.aload_n 1, 1), (.iload_n 2, 1), (.iconst 1, 1), (.iload 4, 2), (.ishl, 1), (.invokevirtual 73, 3), (.ifCond .eq 10, 3), (.iload_n 3, 1), (.iconst 1, 1), (.iload 4, 2), (.ishl, 1), (.ior, 1), (.istore_n 3, 1)]),
  (39, [(.iinc 4 1, 3), (.goto (-37), 3)]),
  (45, [(.iload_n 3, 1), (.ireturn, 1)])]
def am_b305 : List (Nat × List (Instr × Nat)) := [
  (0, [(.aload_n 0, 1), (.getfield 15, 3), (.iload_n 1, 1), (.bipush 21, 2), (.imul, 1), (.aload_n 0, 1), (.getfield 18, 3), (.iload_n 1, 1), (.iaload, 1), (.iadd, 1), (.iload_n 2, 1), (.iastore, 1), (.aload_n 0, 1), (.getfield 18, 3), (.iload_n 1, 1), (.dup2, 1), (.iaload, 1), (.iconst 1, 1), (.iadd, 1), (.iastore, 1), (.iload_n 2, 1), (.iload_n 3, 1), (.iand, 1), (.ifCond .eq 11, 3), (.iload_n 2, 1), (.invokestatic 68, 3), (.iconst 1, 1), (.if_icmp .ne 33, 3)]),
  (41, [(.aload_n 0, 1), (.getfield 21, 3), (.iload_n 1, 1), (.bipush 21, 2), (.imul, 1), (.aload_n 0, 1), (.getfield 24, 3), (.iload_n 1, 1), (.iaload, 1), (.iadd, 1), (.iload_n 2, 1), (.invokestatic 49, 3), (.iastore, 1), (.aload_n 0, 1), (.getfield 24, 3), (.iload_n 1, 1), (.dup2, 1), (.iaload, 1), (.iconst 1, 1), (.iadd, 1), (.iastore, 1)]),
  (71, [(.return_, 1)])]
def am_b306 : List (Nat × List (Instr × Nat)) := [
  (0, [(.iconst 0, 1), (.istore_n 1, 1), (.iconst 0, 1), (.istore_n 2, 1)]),
  (4, [(.iload_n 2, 1), (.bipush 7, 2), (.if_icmp .ge 21, 3), (.iload_n 1, 1), (.iload_n 0, 1), (.iload_n 2, 1), (.ishr, 1), (.iconst 1, 1), (.iand, 1), (.iconst 2, 1), (.iload_n 2, 1), (.imul, 1), (.ishl, 1), (.ior, 1), (.istore_n 1, 1), (.iinc 2 1, 3), (.goto (-21), 3)]),
  (28, [(.iload_n 1, 1), (.ireturn, 1)])]
def am_b307 : List (Nat × List (Instr × Nat)) := [
  (0, [(.iload_n 1, 1), (.iload_n 0, 1), (.iload_n 0, 1), (.iconst 1, 1), (.ishr, 1), (.ior, 1), (.sipush 5461, 3), (.iand, 1), (.iconst (-1), 1), (.ixor, 1), (.iand, 1), (.ifCond .ne 7, 3), (.iconst 1, 1), (.goto 4, 3)]),
  (20, [(.iconst 0, 1)]),
  (21, [(.ireturn, 1)])]
def am_b308 : List (Nat × List (Instr × Nat)) := [
  (0, [(.iload_n 1, 1), (.aload_n 0, 1), (.getfield 39, 3), (.if_icmp .ge 12, 3), (.aload_n 0, 1), (.getfield 27, 3), (.iload_n 1, 1), (.iaload, 1), (.ifCond .ne 5, 3)]),
  (17, [(.iconst 0, 1), (.ireturn, 1)]),
  (19, [(.aload_n 0, 1), (.getfield 46, 3), (.bipush 17, 2), (.ishl, 1), (.iload_n 1, 1), (.bipush 14, 2), (.ishl, 1), (.ior, 1), (.iload_n 2, 1), (.ior, 1), (.istore_n 3, 1), (.iload_n 3, 1), (.invokestatic 81, 3), (.istore 4, 2), (.aload_n 0, 1), (.getfield 30, 3), (.iload 4, 2), (.iaload, 1), (.iconst 3, 1), (.ishr, 1), (.iload_n 3, 1), (.if_icmp .ne 14, 3), (.aload_n 0, 1), (.getfield 30, 3), (.iload 4, 2), (.iaload, 1), (.bipush 7, 2), (.iand, 1), (.ireturn, 1)]),
  (64, [(.iconst 0, 1), (.istore 5, 2), (.iconst 0, 1), (.istore 6, 2)]),
  (70, [(.iload 6, 2), (.aload_n 0, 1), (.getfield 24, 3), (.iload_n 1, 1), (.iaload, 1), (.if_icmp .ge 63, 3), (.iload 5, 2), (.aload_n 0, 1), (.getfield 27, 3), (.iload_n 1, 1), (.iaload, 1), (.if_icmp .ge 52, 3), (.aload_n 0, 1), (.getfield 21, 3), (.iload_n 1, 1), (.bipush 21, 2), (.imul, 1), (.iload 6, 2), (.iadd, 1), (.iaload, 1), (.istore 7, 2), (.iload_n 2, 1), (.iload 7, 2), (.invokestatic 84, 3), (.ifCond .eq 23, 3), (.iload 5, 2), (.iconst 1, 1), (.aload_n 0, 1), (.iload_n 1, 1), (.iconst 1, 1), (.iadd, 1), (.iload_n 2, 1), (.iload 7, 2), (.isub, 1), (.invokevirtual 53, 3), (.iadd, 1), (.invokestatic 87, 3), (.istore 5, 2)]),
  (135, [(.iinc 6 1, 3), (.goto (-68), 3)]),
  (141, [(.iload 5, 2), (.aload_n 0, 1), (.getfield 27, 3), (.iload_n 1, 1), (.iconst 1, 1), (.iadd, 1), (.iaload, 1), (.if_icmp .ge 18, 3), (.iload 5, 2), (.aload_n 0, 1), (.iload_n 1, 1), (.iconst 1, 1), (.iadd, 1), (.iload_n 2, 1), (.invokevirtual 53, 3), (.invokestatic 87, 3), (.istore 5, 2)]),
  (169, [(.aload_n 0, 1), (.getfield 30, 3), (.iload 4, 2), (.iload_n 3, 1), (.iconst 3, 1), (.ishl, 1), (.iload 5, 2), (.ior, 1), (.iastore, 1), (.iload 5, 2), (.ireturn, 1)])]
def am_b309 : List (Nat × List (Instr × Nat)) := [
  (0, [(.iload_n 0, 1), (.ldc 92, 2), (.imul, 1), (.bipush 20, 2), (.iushr, 1), (.ireturn, 1)])]
def am_b310 : List (Nat × List (Instr × Nat)) := [
  (0, [(.iload_n 1, 1), (.istore_n 2, 1), (.aload_n 0, 1), (.getfield 57, 3), (.istore_n 3, 1), (.iconst 0, 1), (.istore 4, 2)]),
  (10, [(.iload 4, 2), (.aload_n 0, 1), (.getfield 39, 3), (.if_icmp .ge 67, 3), (.aload_n 0, 1), (.getfield 9, 3), (.iload 4, 2), (.aload_n 0, 1), (.iload 4, 2), (.iconst 1, 1), (.iadd, 1), (.iload_n 2, 1), (.invokevirtual 53, 3), (.iload_n 3, 1), (.if_icmp .ne 7, 3), (.iconst 0, 1), (.goto 11, 3)]),
  (42, [(.aload_n 0, 1), (.iload 4, 2), (.iload_n 2, 1), (.iload_n 3, 1), (.invokevirtual 93, 3)]),
  (50, [(.iastore, 1), (.aload_n 0, 1), (.getfield 9, 3), (.iload 4, 2), (.iaload, 1), (.ifCond .eq 19, 3), (.iload_n 2, 1), (.aload_n 0, 1), (.getfield 9, 3), (.iload 4, 2), (.iaload, 1), (.invokestatic 49, 3), (.isub, 1), (.istore_n 2, 1), (.iinc 3 (-1), 3)]),
  (77, [(.iinc 4 1, 3), (.goto (-70), 3)]),
  (83, [(.return_, 1)])]
def am_b311 : List (Nat × List (Instr × Nat)) := [
  (0, [(.iconst 0, 1), (.istore 4, 2)]),
  (3, [(.iload 4, 2), (.aload_n 0, 1), (.getfield 18, 3), (.iload_n 1, 1), (.iaload, 1), (.if_icmp .ge 59, 3), (.aload_n 0, 1), (.getfield 15, 3), (.iload_n 1, 1), (.bipush 21, 2), (.imul, 1), (.iload 4, 2), (.iadd, 1), (.iaload, 1), (.istore 5, 2), (.iload 5, 2), (.invokestatic 49, 3), (.istore 6, 2), (.iload_n 2, 1), (.iload 6, 2), (.invokestatic 84, 3), (.ifCond .eq 23, 3), (.iconst 1, 1), (.aload_n 0, 1), (.iload_n 1, 1), (.iconst 1, 1), (.iadd, 1), (.iload_n 2, 1), (.iload 6, 2), (.isub, 1), (.invokevirtual 53, 3), (.iadd, 1), (.iload_n 3, 1), (.if_icmp .ne 6, 3), (.iload 5, 2), (.ireturn, 1)]),
  (64, [(.iinc 4 1, 3), (.goto (-64), 3)]),
  (70, [(.iconst 0, 1), (.ireturn, 1)])]
def am_b401 : List (Nat × List (Instr × Nat)) := [
  (0, [(.aload_n 0, 1), (.iconst 0, 1), (.putfield 21, 3), (.return_, 1)])]
def am_b402 : List (Nat × List (Instr × Nat)) := [
  (0, [(.aload_n 0, 1), (.aload_n 0, 1), (.getfield 25, 3), (.iconst 1, 1), (.iadd, 1), (.bipush 6, 2), (.if_icmp .ge 12, 3), (.aload_n 0, 1), (.getfield 25, 3), (.iconst 1, 1), (.iadd, 1), (.goto 4, 3)]),
  (21, [(.iconst 0, 1)]),
  (22, [(.putfield 25, 3), (.aload_n 0, 1), (.getfield 21, 3), (.bipush 6, 2), (.if_icmp .ge 13, 3), (.aload_n 0, 1), (.dup, 1), (.getfield 21, 3), (.iconst 1, 1), (.iadd, 1), (.putfield 21, 3)]),
  (44, [(.aload_n 0, 1), (.getfield 9, 3), (.aload_n 0, 1), (.getfield 25, 3), (.aload_n 1, 1), (.getfield 28, 3), (.iastore, 1), (.aload_n 0, 1), (.getfield 15, 3), (.aload_n 0, 1), (.getfield 25, 3), (.aload_n 1, 1), (.getfield 33, 3), (.iastore, 1), (.aload_n 1, 1), (.getfield 35, 3), (.iconst 0, 1), (.aload_n 0, 1), (.getfield 18, 3), (.aload_n 0, 1), (.getfield 25, 3), (.aload_n 1, 1), (.getfield 35, 3), (.arraylength, 1), (.imul, 1), (.aload_n 1, 1), (.getfield 35, 3), (.arraylength, 1), (.invokestatic 36, 3), (.return_, 1)])]
def am_b403 : List (Nat × List (Instr × Nat)) := [
  (0, [(.aload_n 1, 1), (.aload_n 0, 1), (.getfield 9, 3), (.aload_n 0, 1), (.getfield 25, 3), (.iaload, 1), (.putfield 28, 3), (.aload_n 1, 1), (.aload_n 0, 1), (.getfield 15, 3), (.aload_n 0, 1), (.getfield 25, 3), (.iaload, 1), (.putfield 33, 3), (.aload_n 0, 1), (.getfield 18, 3), (.aload_n 0, 1), (.getfield 25, 3), (.aload_n 1, 1), (.getfield 35, 3), (.arraylength, 1), (.imul, 1), (.aload_n 1, 1), (.getfield 35, 3), (.iconst 0, 1), (.aload_n 1, 1), (.getfield 35, 3), (.arraylength, 1), (.invokestatic 36, 3), (.aload_n 1, 1), (.dup, 1), (.getfield 42, 3), (.iconst 1, 1), (.isub, 1), (.putfield 42, 3), (.aload_n 0, 1), (.aload_n 0, 1), (.getfield 25, 3), (.ifCond .le 12, 3), (.aload_n 0, 1), (.getfield 25, 3), (.iconst 1, 1), (.isub, 1), (.goto 4, 3)]),
  (80, [(.iconst 5, 1)]),
  (81, [(.putfield 25, 3), (.aload_n 0, 1), (.dup, 1), (.getfield 21, 3), (.iconst 1, 1), (.isub, 1), (.putfield 21, 3), (.return_, 1)])]
def am_b501 : List (Nat × List (Instr × Nat)) := [
  (0, [(.aload_n 0, 1), (.iconst 0, 1), (.putfield 21, 3), (.iconst 0, 1), (.istore_n 2, 1)]),
  (7, [(.iload_n 2, 1), (.aload_n 1, 1), (.getfield 25, 3), (.if_icmp .ge 15, 3), (.aload_n 0, 1), (.aload_n 1, 1), (.iload_n 2, 1), (.invokevirtual 30, 3), (.iinc 2 1, 3), (.goto (-17), 3)]),
  (27, [(.return_, 1)])]
def am_b502 : List (Nat × List (Instr × Nat)) := [
  (0, [(.aload_n 0, 1), (.iconst 0, 1), (.putfield 21, 3), (.iconst 0, 1), (.istore_n 2, 1)]),
  (7, [(.iload_n 2, 1), (.aload_n 1, 1), (.getfield 25, 3), (.if_icmp .ge 23, 3), (.aload_n 1, 1), (.iload_n 2, 1), (.invokevirtual 34, 3), (.ifCond .eq 9, 3), (.aload_n 0, 1), (.aload_n 1, 1), (.iload_n 2, 1), (.invokevirtual 30, 3)]),
  (29, [(.iinc 2 1, 3), (.goto (-25), 3)]),
  (35, [(.return_, 1)])]
def am_b503 : List (Nat × List (Instr × Nat)) := [
  (0, [(.aload_n 0, 1), (.getfield 9, 3), (.aload_n 0, 1), (.getfield 21, 3), (.aload_n 1, 1), (.iload_n 2, 1), (.invokevirtual 38, 3), (.iastore, 1), (.aload_n 0, 1), (.getfield 15, 3), (.aload_n 0, 1), (.getfield 21, 3), (.iconst 1, 1), (.aload_n 1, 1), (.getfield 42, 3), (.iload_n 2, 1), (.iaload, 1), (.ishl, 1), (.iastore, 1), (.aload_n 0, 1), (.dup, 1), (.getfield 21, 3), (.iconst 1, 1), (.iadd, 1), (.putfield 21, 3), (.return_, 1)])]
def am_b504 : List (Nat × List (Instr × Nat)) := [
  (0, [(.iconst 0, 1), (.istore_n 1, 1), (.iconst 0, 1), (.istore_n 2, 1)]),
  (4, [(.iload_n 2, 1), (.aload_n 0, 1), (.getfield 21, 3), (.if_icmp .ge 18, 3), (.iload_n 1, 1), (.aload_n 0, 1), (.getfield 9, 3), (.iload_n 2, 1), (.iaload, 1), (.ior, 1), (.istore_n 1, 1), (.iinc 2 1, 3), (.goto (-20), 3)]),
  (27, [(.iload_n 1, 1), (.ireturn, 1)])]
def am_b505 : List (Nat × List (Instr × Nat)) := [
  (0, [(.aload_n 0, 1), (.iload_n 1, 1), (.putfield 45, 3), (.aload_n 0, 1), (.iconst 0, 1), (.putfield 48, 3), (.iconst 0, 1), (.istore_n 2, 1)]),
  (12, [(.iload_n 2, 1), (.aload_n 0, 1), (.getfield 21, 3), (.if_icmp .ge 47, 3), (.aload_n 0, 1), (.getfield 45, 3), (.aload_n 0, 1), (.aload_n 0, 1), (.getfield 45, 3), (.invokevirtual 51, 3), (.ior, 1), (.istore_n 3, 1), (.iload_n 3, 1), (.aload_n 0, 1), (.getfield 45, 3), (.if_icmp .ne 4, 3), (.return_, 1)]),
  (43, [(.aload_n 0, 1), (.iload_n 3, 1), (.putfield 45, 3), (.aload_n 0, 1), (.dup, 1), (.getfield 48, 3), (.iconst 1, 1), (.iadd, 1), (.putfield 48, 3), (.iinc 2 1, 3), (.goto (-49), 3)]),
  (64, [(.return_, 1)])]
def am_b506 : List (Nat × List (Instr × Nat)) := [
  (0, [(.iconst 0, 1), (.istore_n 2, 1), (.iconst 0, 1), (.istore_n 3, 1)]),
  (4, [(.iload_n 3, 1), (.aload_n 0, 1), (.getfield 21, 3), (.if_icmp .ge 31, 3), (.aload_n 0, 1), (.getfield 9, 3), (.iload_n 3, 1), (.iaload, 1), (.iload_n 1, 1), (.iconst (-1), 1), (.ixor, 1), (.iand, 1), (.ifCond .ne 12, 3), (.iload_n 2, 1), (.aload_n 0, 1), (.getfield 15, 3), (.iload_n 3, 1), (.iaload, 1), (.ior, 1), (.istore_n 2, 1)]),
  (34, [(.iinc 3 1, 3), (.goto (-33), 3)]),
  (40, [(.iload_n 2, 1), (.ireturn, 1)])]
def am_b507 : List (Nat × List (Instr × Nat)) := [
  (0, [(.aload_n 0, 1), (.aload_n 1, 1), (.invokevirtual 54, 3), (.aload_n 0, 1), (.iconst 0, 1), (.putfield 58, 3), (.aload_n 0, 1), (.iconst 1, 1), (.aload_n 0, 1), (.getfield 21, 3), (.ishl, 1), (.iconst 1, 1), (.isub, 1), (.putfield 61, 3), (.aload_n 1, 1), (.getfield 64, 3), (.istore_n 2, 1), (.iconst 0, 1), (.istore_n 3, 1)]),
  (29, [(.iload_n 3, 1), (.aload_n 0, 1), (.getfield 21, 3), (.if_icmp .ge 69, 3), (.aload_n 0, 1), (.iload_n 2, 1), (.invokevirtual 67, 3), (.istore 4, 2), (.iload 4, 2), (.iconst (-1), 1), (.if_icmp .ne 4, 3), (.return_, 1)]),
  (51, [(.aload_n 0, 1), (.getfield 18, 3), (.aload_n 0, 1), (.getfield 58, 3), (.iload 4, 2), (.iastore, 1), (.aload_n 0, 1), (.dup, 1), (.getfield 58, 3), (.iconst 1, 1), (.iadd, 1), (.putfield 58, 3), (.aload_n 0, 1), (.dup, 1), (.getfield 61, 3), (.iconst 1, 1), (.iload 4, 2), (.ishl, 1), (.iconst (-1), 1), (.ixor, 1), (.iand, 1), (.putfield 61, 3), (.iload_n 2, 1), (.aload_n 0, 1), (.getfield 15, 3), (.iload 4, 2), (.iaload, 1), (.ior, 1), (.istore_n 2, 1), (.iinc 3 1, 3), (.goto (-71), 3)]),
  (103, [(.return_, 1)])]
def am_b508 : List (Nat × List (Instr × Nat)) := [
  (0, [(.iconst 0, 1), (.istore_n 2, 1)]),
  (2, [(.iload_n 2, 1), (.aload_n 0, 1), (.getfield 21, 3), (.if_icmp .ge 35, 3), (.aload_n 0, 1), (.getfield 61, 3), (.iload_n 2, 1), (.ishr, 1), (.iconst 1, 1), (.iand, 1), (.ifCond .eq 18, 3), (.aload_n 0, 1), (.getfield 9, 3), (.iload_n 2, 1), (.iaload, 1), (.iload_n 1, 1), (.iconst (-1), 1), (.ixor, 1), (.iand, 1), (.ifCond .ne 5, 3), (.iload_n 2, 1), (.ireturn, 1)]),
  (36, [(.iinc 2 1, 3), (.goto (-37), 3)]),
  (42, [(.iconst (-1), 1), (.ireturn, 1)])]
def am_b509 : List (Nat × List (Instr × Nat)) := [
  (0, [(.aload_n 0, 1), (.iload_n 2, 1), (.putfield 70, 3), (.iconst 0, 1), (.istore_n 3, 1), (.iconst 0, 1), (.istore 4, 2)]),
  (10, [(.iload 4, 2), (.aload_n 0, 1), (.getfield 21, 3), (.if_icmp .ge 19, 3), (.iload_n 3, 1), (.aload_n 0, 1), (.getfield 15, 3), (.iload 4, 2), (.iaload, 1), (.ior, 1), (.istore_n 3, 1), (.iinc 4 1, 3), (.goto (-22), 3)]),
  (35, [(.iload_n 2, 1), (.iload_n 1, 1), (.iconst (-1), 1), (.ixor, 1), (.iand, 1), (.iload_n 3, 1), (.iconst (-1), 1), (.ixor, 1), (.iand, 1), (.istore 4, 2), (.aload_n 0, 1), (.iload_n 1, 1), (.iload 4, 2), (.ior, 1), (.invokevirtual 73, 3), (.istore 5, 2), (.aload_n 0, 1), (.iload_n 2, 1), (.iload 5, 2), (.iconst (-1), 1), (.ixor, 1), (.iand, 1), (.putfield 76, 3), (.iconst 0, 1), (.istore 6, 2)]),
  (69, [(.iload 6, 2), (.aload_n 0, 1), (.getfield 21, 3), (.if_icmp .ge 45, 3), (.aload_n 0, 1), (.getfield 15, 3), (.iload 6, 2), (.iaload, 1), (.iload 5, 2), (.iconst (-1), 1), (.ixor, 1), (.iand, 1), (.ifCond .eq 24, 3), (.aload_n 0, 1), (.dup, 1), (.getfield 76, 3), (.aload_n 0, 1), (.getfield 9, 3), (.iload 6, 2), (.iaload, 1), (.iload 5, 2), (.iconst (-1), 1), (.ixor, 1), (.iand, 1), (.ior, 1), (.putfield 76, 3)]),
  (114, [(.iinc 6 1, 3), (.goto (-48), 3)]),
  (120, [(.iconst 0, 1), (.istore 6, 2)]),
  (123, [(.iload 6, 2), (.bipush 16, 2), (.if_icmp .gt 33, 3), (.aload_n 0, 1), (.iload 5, 2), (.iload 6, 2), (.bipush 16, 2), (.invokevirtual 79, 3), (.istore 7, 2), (.iload 7, 2), (.iconst (-1), 1), (.if_icmp .eq 9, 3), (.iload 4, 2), (.iload 7, 2), (.ior, 1), (.ireturn, 1)]),
  (154, [(.iinc 6 1, 3), (.goto (-34), 3)]),
  (160, [(.iload 4, 2), (.aload_n 0, 1), (.getfield 76, 3), (.ior, 1), (.ireturn, 1)])]
def am_b510 : List (Nat × List (Instr × Nat)) := [
  (0, [(.iload_n 2, 1), (.ifCond .ne 20, 3), (.aload_n 0, 1), (.getfield 70, 3), (.iload_n 1, 1), (.iconst (-1), 1), (.ixor, 1), (.iand, 1), (.ifCond .ne 7, 3), (.iconst 0, 1), (.goto 4, 3)]),
  (19, [(.iconst (-1), 1)]),
  (20, [(.ireturn, 1)]),
  (21, [(.iload_n 2, 1), (.iconst 1, 1), (.isub, 1), (.istore 4, 2)]),
  (26, [(.iload 4, 2), (.iload_n 3, 1), (.if_icmp .ge 60, 3), (.aload_n 0, 1), (.getfield 76, 3), (.iload_n 1, 1), (.iconst (-1), 1), (.ixor, 1), (.iand, 1), (.iconst 1, 1), (.iload 4, 2), (.ishl, 1), (.iand, 1), (.ifCond .eq 38, 3), (.aload_n 0, 1), (.aload_n 0, 1), (.iload_n 1, 1), (.iconst 1, 1), (.iload 4, 2), (.ishl, 1), (.ior, 1), (.invokevirtual 73, 3), (.iload_n 2, 1), (.iconst 1, 1), (.isub, 1), (.iload 4, 2), (.invokevirtual 79, 3), (.istore 5, 2), (.iload 5, 2), (.iconst (-1), 1), (.if_icmp .eq 11, 3), (.iload 5, 2), (.iconst 1, 1), (.iload 4, 2), (.ishl, 1), (.ior, 1), (.ireturn, 1)]),
  (83, [(.iinc 4 1, 3), (.goto (-60), 3)]),
  (89, [(.iconst (-1), 1), (.ireturn, 1)])]
def am_b511 : List (Nat × List (Instr × Nat)) := [
  (0, [(.iload_n 1, 1), (.istore_n 2, 1), (.iconst 0, 1), (.istore_n 3, 1)]),
  (4, [(.iload_n 3, 1), (.aload_n 0, 1), (.getfield 21, 3), (.if_icmp .ge 62, 3), (.iload_n 2, 1), (.istore 4, 2), (.iconst 0, 1), (.istore 5, 2)]),
  (18, [(.iload 5, 2), (.aload_n 0, 1), (.getfield 21, 3), (.if_icmp .ge 33, 3), (.aload_n 0, 1), (.getfield 9, 3), (.iload 5, 2), (.iaload, 1), (.iload_n 2, 1), (.iconst (-1), 1), (.ixor, 1), (.iand, 1), (.ifCond .ne 13, 3), (.iload_n 2, 1), (.aload_n 0, 1), (.getfield 15, 3), (.iload 5, 2), (.iaload, 1), (.ior, 1), (.istore_n 2, 1)]),
  (51, [(.iinc 5 1, 3), (.goto (-36), 3)]),
  (57, [(.iload_n 2, 1), (.iload 4, 2), (.if_icmp .ne 5, 3), (.iload_n 2, 1), (.ireturn, 1)]),
  (65, [(.iinc 3 1, 3), (.goto (-64), 3)]),
  (71, [(.iload_n 2, 1), (.ireturn, 1)])]
def am_b601 : List (Nat × List (Instr × Nat)) := [
  (0, [(.aload_n 0, 1), (.iconst 0, 1), (.putfield 21, 3), (.iconst 0, 1), (.istore_n 3, 1), (.iconst 0, 1), (.istore 4, 2)]),
  (10, [(.iload 4, 2), (.iload_n 2, 1), (.if_icmp .ge 77, 3), (.iload_n 3, 1), (.iload_n 2, 1), (.if_icmp .ge 72, 3), (.aload_n 1, 1), (.iload_n 3, 1), (.iload_n 2, 1), (.invokestatic 25, 3), (.istore 5, 2), (.aload_n 1, 1), (.iload_n 3, 1), (.baload, 1), (.invokestatic 29, 3), (.ifCond .ne 46, 3), (.aload_n 0, 1), (.aload_n 1, 1), (.iload_n 3, 1), (.iload 5, 2), (.invokestatic 33, 3), (.iload_n 3, 1), (.invokevirtual 36, 3), (.aload_n 0, 1), (.getfield 18, 3), (.aload_n 0, 1), (.getfield 21, 3), (.iconst 1, 1), (.isub, 1), (.aload_n 1, 1), (.iload_n 3, 1), (.baload, 1), (.invokestatic 40, 3), (.ifCond .eq 13, 3), (.aload_n 1, 1), (.iload_n 3, 1), (.iload 5, 2), (.invokestatic 43, 3), (.goto 4, 3)]),
  (79, [(.iconst 0, 1)]),
  (80, [(.iastore, 1)]),
  (81, [(.iload 5, 2), (.istore_n 3, 1), (.iinc 4 1, 3), (.goto (-77), 3)]),
  (90, [(.aload_n 0, 1), (.iconst 0, 1), (.iload_n 2, 1), (.invokevirtual 36, 3), (.return_, 1)])]
def am_b602 : List (Nat × List (Instr × Nat)) := [
  (0, [(.aload_n 0, 1), (.getfield 9, 3), (.aload_n 0, 1), (.getfield 21, 3), (.iload_n 1, 1), (.iastore, 1), (.aload_n 0, 1), (.getfield 15, 3), (.aload_n 0, 1), (.getfield 21, 3), (.iload_n 2, 1), (.iastore, 1), (.aload_n 0, 1), (.dup, 1), (.getfield 21, 3), (.iconst 1, 1), (.iadd, 1), (.putfield 21, 3), (.return_, 1)])]
def am_b603 : List (Nat × List (Instr × Nat)) := [
  (0, [(.iload_n 1, 1), (.iconst 1, 1), (.iadd, 1), (.istore_n 3, 1), (.aload_n 0, 1), (.iload_n 1, 1), (.baload, 1), (.invokestatic 46, 3), (.ifCond .eq 23, 3)]),
  (13, [(.iload_n 3, 1), (.iload_n 2, 1), (.if_icmp .ge 47, 3), (.aload_n 0, 1), (.iload_n 3, 1), (.baload, 1), (.invokestatic 46, 3), (.ifCond .eq 38, 3), (.iinc 3 1, 3), (.goto (-17), 3)]),
  (33, [(.aload_n 0, 1), (.iload_n 1, 1), (.baload, 1), (.invokestatic 40, 3), (.ifCond .eq 23, 3)]),
  (42, [(.iload_n 3, 1), (.iload_n 2, 1), (.if_icmp .ge 18, 3), (.aload_n 0, 1), (.iload_n 3, 1), (.baload, 1), (.invokestatic 40, 3), (.ifCond .eq 9, 3), (.iinc 3 1, 3), (.goto (-17), 3)]),
  (62, [(.iload_n 3, 1), (.ireturn, 1)])]
def am_b604 : List (Nat × List (Instr × Nat)) := [
  (0, [(.aload_n 0, 1), (.iload_n 1, 1), (.baload, 1), (.invokestatic 40, 3), (.ifCond .eq 16, 3), (.iload_n 2, 1), (.iload_n 1, 1), (.isub, 1), (.iconst 4, 1), (.if_icmp .gt 7, 3), (.iconst 2, 1), (.goto 4, 3)]),
  (20, [(.iconst 1, 1)]),
  (21, [(.ireturn, 1)]),
  (22, [(.aload_n 0, 1), (.iload_n 1, 1), (.baload, 1), (.invokestatic 46, 3), (.ifCond .ne 10, 3), (.aload_n 0, 1), (.iload_n 1, 1), (.baload, 1), (.invokestatic 49, 3), (.ireturn, 1)]),
  (38, [(.iconst 3, 1), (.istore_n 3, 1)]),
  (40, [(.iload_n 3, 1), (.bipush 14, 2), (.if_icmp .gt 24, 3), (.iload_n 3, 1), (.invokestatic 53, 3), (.aload_n 0, 1), (.iload_n 1, 1), (.iload_n 2, 1), (.invokestatic 57, 3), (.ifCond .eq 5, 3), (.iload_n 3, 1), (.ireturn, 1)]),
  (61, [(.iinc 3 1, 3), (.goto (-24), 3)]),
  (67, [(.iconst 1, 1), (.ireturn, 1)])]
def am_b605 : List (Nat × List (Instr × Nat)) := [
  (0, [(.iconst 0, 1), (.istore_n 3, 1), (.iload_n 1, 1), (.istore 4, 2)]),
  (5, [(.iload 4, 2), (.iload_n 2, 1), (.if_icmp .ge 22, 3), (.iload_n 3, 1), (.bipush 10, 2), (.imul, 1), (.aload_n 0, 1), (.iload 4, 2), (.baload, 1), (.bipush 48, 2), (.isub, 1), (.iadd, 1), (.istore_n 3, 1), (.iinc 4 1, 3), (.goto (-22), 3)]),
  (30, [(.iload_n 3, 1), (.ireturn, 1)])]
def am_b606 : List (Nat × List (Instr × Nat)) := [
  (0, [(.aload_n 0, 1), (.invokevirtual 61, 3), (.iload_n 3, 1), (.iload_n 2, 1), (.isub, 1), (.if_icmp .eq 5, 3), (.iconst 0, 1), (.ireturn, 1)]),
  (12, [(.iconst 0, 1), (.istore 4, 2)]),
  (15, [(.iload 4, 2), (.aload_n 0, 1), (.invokevirtual 61, 3), (.if_icmp .ge 26, 3), (.aload_n 0, 1), (.iload 4, 2), (.invokevirtual 67, 3), (.aload_n 1, 1), (.iload_n 2, 1), (.iload 4, 2), (.iadd, 1), (.baload, 1), (.if_icmp .eq 5, 3), (.iconst 0, 1), (.ireturn, 1)]),
  (41, [(.iinc 4 1, 3), (.goto (-29), 3)]),
  (47, [(.iconst 1, 1), (.ireturn, 1)])]
def am_b607 : List (Nat × List (Instr × Nat)) := [
  (0, [(.iload_n 0, 1), (.bipush 32, 2), (.if_icmp .eq 9, 3), (.iload_n 0, 1), (.bipush 10, 2), (.if_icmp .ne 7, 3)]),
  (12, [(.iconst 1, 1), (.goto 4, 3)]),
  (16, [(.iconst 0, 1)]),
  (17, [(.ireturn, 1)])]
def am_b608 : List (Nat × List (Instr × Nat)) := [
  (0, [(.iload_n 0, 1), (.bipush 97, 2), (.if_icmp .lt 9, 3), (.iload_n 0, 1), (.bipush 122, 2), (.if_icmp .le 15, 3)]),
  (12, [(.iload_n 0, 1), (.bipush 65, 2), (.if_icmp .lt 13, 3), (.iload_n 0, 1), (.bipush 90, 2), (.if_icmp .gt 7, 3)]),
  (24, [(.iconst 1, 1), (.goto 4, 3)]),
  (28, [(.iconst 0, 1)]),
  (29, [(.ireturn, 1)])]
def am_b609 : List (Nat × List (Instr × Nat)) := [
  (0, [(.iload_n 0, 1), (.bipush 48, 2), (.if_icmp .lt 13, 3), (.iload_n 0, 1), (.bipush 57, 2), (.if_icmp .gt 7, 3), (.iconst 1, 1), (.goto 4, 3)]),
  (16, [(.iconst 0, 1)]),
  (17, [(.ireturn, 1)])]
def am_b610 : List (Nat × List (Instr × Nat)) := [
  (0, [(.iload_n 0, 1), (.tableswitch 99 3 14 #[63, 66, 69, 72, 75, 78, 81, 84, 87, 90, 93, 96], 63)]),
  (64, [(.ldc 71, 2), (.areturn, 1)]),
  (67, [(.ldc 73, 2), (.areturn, 1)]),
  (70, [(.ldc 75, 2), (.areturn, 1)]),
  (73, [(.ldc 77, 2), (.areturn, 1)]),
  (76, [(.ldc 79, 2), (.areturn, 1)]),
  (79, [(.ldc 81, 2), (.areturn, 1)]),
  (82, [(.ldc 83, 2), (.areturn, 1)]),
  (85, [(.ldc 85, 2), (.areturn, 1)]),
  (88, [(.ldc 87, 2), (.areturn, 1)]),
  (91, [(.ldc 89, 2), (.areturn, 1)]),
  (94, [(.ldc 91, 2), (.areturn, 1)]),
  (97, [(.ldc 93, 2), (.areturn, 1)]),
  (100, [(.ldc 95, 2), (.areturn, 1)])]
def am_b611 : List (Nat × List (Instr × Nat)) := [
  (0, [(.iload_n 0, 1), (.tableswitch 137 40 62 #[122, 125, 116, 110, 137, 113, 137, 119, 137, 137, 137, 137, 137, 137, 137, 137, 137, 137, 137, 107, 128, 131, 134], 107)]),
  (108, [(.bipush 15, 2), (.ireturn, 1)]),
  (111, [(.bipush 16, 2), (.ireturn, 1)]),
  (114, [(.bipush 17, 2), (.ireturn, 1)]),
  (117, [(.bipush 18, 2), (.ireturn, 1)]),
  (120, [(.bipush 19, 2), (.ireturn, 1)]),
  (123, [(.bipush 20, 2), (.ireturn, 1)]),
  (126, [(.bipush 21, 2), (.ireturn, 1)]),
  (129, [(.bipush 22, 2), (.ireturn, 1)]),
  (132, [(.bipush 23, 2), (.ireturn, 1)]),
  (135, [(.bipush 24, 2), (.ireturn, 1)]),
  (138, [(.iconst 1, 1), (.ireturn, 1)])]
def am_b701 : List (Nat × List (Instr × Nat)) := [
  (0, [(.aload_n 0, 1), (.aload_n 1, 1), (.getfield 38, 3), (.putfield 38, 3), (.aload_n 0, 1), (.aload_n 1, 1), (.getfield 9, 3), (.putfield 9, 3), (.aload_n 0, 1), (.aload_n 1, 1), (.getfield 41, 3), (.putfield 41, 3), (.aload_n 0, 1), (.aload_n 1, 1), (.getfield 44, 3), (.putfield 44, 3), (.aload_n 0, 1), (.aload_n 1, 1), (.getfield 47, 3), (.putfield 47, 3), (.aload_n 1, 1), (.getfield 15, 3), (.iconst 0, 1), (.aload_n 0, 1), (.getfield 15, 3), (.iconst 0, 1), (.aload_n 0, 1), (.getfield 15, 3), (.arraylength, 1), (.invokestatic 50, 3), (.aload_n 0, 1), (.aload_n 1, 1), (.getfield 56, 3), (.putfield 56, 3), (.aload_n 0, 1), (.aload_n 1, 1), (.getfield 59, 3), (.putfield 59, 3), (.aload_n 1, 1), (.getfield 19, 3), (.iconst 0, 1), (.aload_n 0, 1), (.getfield 19, 3), (.iconst 0, 1), (.aload_n 0, 1), (.getfield 19, 3), (.arraylength, 1), (.invokestatic 50, 3), (.aload_n 1, 1), (.getfield 22, 3), (.iconst 0, 1), (.aload_n 0, 1), (.getfield 22, 3), (.iconst 0, 1), (.aload_n 0, 1), (.getfield 22, 3), (.arraylength, 1), (.invokestatic 50, 3), (.aload_n 1, 1), (.getfield 25, 3), (.iconst 0, 1), (.aload_n 0, 1), (.getfield 25, 3), (.iconst 0, 1), (.aload_n 0, 1), (.getfield 25, 3), (.arraylength, 1), (.invokestatic 50, 3), (.aload_n 0, 1), (.aload_n 1, 1), (.getfield 62, 3), (.putfield 62, 3), (.aload_n 1, 1), (.getfield 28, 3), (.iconst 0, 1), (.aload_n 0, 1), (.getfield 28, 3), (.iconst 0, 1), (.aload_n 0, 1), (.getfield 28, 3), (.arraylength, 1), (.invokestatic 50, 3), (.aload_n 0, 1), (.getfield 34, 3), (.aload_n 1, 1), (.getfield 34, 3), (.invokevirtual 65, 3), (.return_, 1)])]
def am_b702 : List (Nat × List (Instr × Nat)) := [
  (0, [(.iload_n 1, 1), (.ifCond .lt 15, 3), (.iload_n 1, 1), (.aload_n 0, 1), (.getfield 47, 3), (.if_icmp .ge 7, 3), (.iconst 1, 1), (.goto 4, 3)]),
  (16, [(.iconst 0, 1)]),
  (17, [(.ireturn, 1)])]
def am_b703 : List (Nat × List (Instr × Nat)) := [
  (0, [(.iload_n 1, 1), (.ifCond .lt 15, 3), (.iload_n 1, 1), (.aload_n 0, 1), (.getfield 59, 3), (.if_icmp .ge 7, 3), (.iconst 1, 1), (.goto 4, 3)]),
  (16, [(.iconst 0, 1)]),
  (17, [(.ireturn, 1)])]
def am_b704 : List (Nat × List (Instr × Nat)) := [
  (0, [(.iload_n 1, 1), (.aload_n 0, 1), (.getfield 47, 3), (.iushr, 1), (.ifCond .ne 7, 3), (.iconst 1, 1), (.goto 4, 3)]),
  (13, [(.iconst 0, 1)]),
  (14, [(.ireturn, 1)])]
def am_b705 : List (Nat × List (Instr × Nat)) := [
  (0, [(.aload_n 0, 1), (.iload_n 1, 1), (.invokevirtual 69, 3), (.ifCond .eq 16, 3), (.aload_n 0, 1), (.iload_n 2, 1), (.invokevirtual 69, 3), (.ifCond .eq 8, 3), (.iload_n 2, 1), (.iload_n 1, 1), (.if_icmp .ne 5, 3)]),
  (21, [(.iconst 0, 1), (.ireturn, 1)]),
  (23, [(.iload_n 3, 1), (.iconst (-1), 1), (.if_icmp .ne 15, 3), (.iload 4, 2), (.iconst (-1), 1), (.if_icmp .ne 7, 3), (.iconst 1, 1), (.goto 4, 3)]),
  (38, [(.iconst 0, 1)]),
  (39, [(.ireturn, 1)]),
  (40, [(.aload_n 0, 1), (.iload_n 3, 1), (.invokevirtual 69, 3), (.ifCond .eq 13, 3), (.iload_n 3, 1), (.iload_n 1, 1), (.if_icmp .eq 8, 3), (.iload_n 3, 1), (.iload_n 2, 1), (.if_icmp .ne 5, 3)]),
  (58, [(.iconst 0, 1), (.ireturn, 1)]),
  (60, [(.iload 4, 2), (.iconst (-1), 1), (.if_icmp .eq 30, 3), (.aload_n 0, 1), (.iload 4, 2), (.invokevirtual 69, 3), (.ifCond .eq 25, 3), (.iload 4, 2), (.iload_n 1, 1), (.if_icmp .eq 19, 3), (.iload 4, 2), (.iload_n 2, 1), (.if_icmp .eq 13, 3), (.iload 4, 2), (.iload_n 3, 1), (.if_icmp .eq 7, 3)]),
  (93, [(.iconst 1, 1), (.goto 4, 3)]),
  (97, [(.iconst 0, 1)]),
  (98, [(.ireturn, 1)])]
def am_b706 : List (Nat × List (Instr × Nat)) := [
  (0, [(.aload_n 0, 1), (.getfield 59, 3), (.istore 5, 2), (.aload_n 0, 1), (.getfield 19, 3), (.iload 5, 2), (.iload_n 1, 1), (.iastore, 1), (.aload_n 0, 1), (.getfield 22, 3), (.iload 5, 2), (.iload_n 3, 1), (.iconst (-1), 1), (.if_icmp .ne 7, 3), (.iconst 1, 1), (.goto 14, 3)]),
  (29, [(.iload 4, 2), (.iconst (-1), 1), (.if_icmp .ne 7, 3), (.iconst 2, 1), (.goto 4, 3)]),
  (39, [(.iconst 3, 1)]),
  (40, [(.iastore, 1), (.aload_n 0, 1), (.getfield 25, 3), (.iload 5, 2), (.iconst 3, 1), (.imul, 1), (.iload_n 2, 1), (.iastore, 1), (.aload_n 0, 1), (.getfield 25, 3), (.iload 5, 2), (.iconst 3, 1), (.imul, 1), (.iconst 1, 1), (.iadd, 1), (.iload_n 3, 1), (.iastore, 1), (.aload_n 0, 1), (.getfield 25, 3), (.iload 5, 2), (.iconst 3, 1), (.imul, 1), (.iconst 2, 1), (.iadd, 1), (.iload 4, 2), (.iastore, 1), (.aload_n 0, 1), (.iload 5, 2), (.iconst 1, 1), (.iadd, 1), (.putfield 59, 3), (.iload 5, 2), (.ireturn, 1)])]
def am_b707 : List (Nat × List (Instr × Nat)) := [
  (0, [(.iload_n 1, 1), (.istore_n 3, 1)]),
  (2, [(.iload_n 3, 1), (.iload_n 2, 1), (.if_icmp .ge 17, 3), (.aload_n 0, 1), (.iload_n 3, 1), (.iload_n 3, 1), (.iconst 1, 1), (.iadd, 1), (.invokevirtual 73, 3), (.iinc 3 1, 3), (.goto (-16), 3)]),
  (21, [(.iload_n 1, 1), (.istore_n 3, 1)]),
  (23, [(.iload_n 3, 1), (.iload_n 2, 1), (.if_icmp .le 17, 3), (.aload_n 0, 1), (.iload_n 3, 1), (.iload_n 3, 1), (.iconst 1, 1), (.isub, 1), (.invokevirtual 73, 3), (.iinc 3 (-1), 3), (.goto (-16), 3)]),
  (42, [(.return_, 1)])]
def am_b708 : List (Nat × List (Instr × Nat)) := [
  (0, [(.aload_n 0, 1), (.getfield 19, 3), (.iload_n 1, 1), (.iload_n 2, 1), (.invokestatic 77, 3), (.aload_n 0, 1), (.getfield 22, 3), (.iload_n 1, 1), (.iload_n 2, 1), (.invokestatic 77, 3), (.iconst 0, 1), (.istore_n 3, 1)]),
  (20, [(.iload_n 3, 1), (.iconst 3, 1), (.if_icmp .ge 26, 3), (.aload_n 0, 1), (.getfield 25, 3), (.iload_n 1, 1), (.iconst 3, 1), (.imul, 1), (.iload_n 3, 1), (.iadd, 1), (.iload_n 2, 1), (.iconst 3, 1), (.imul, 1), (.iload_n 3, 1), (.iadd, 1), (.invokestatic 77, 3), (.iinc 3 1, 3), (.goto (-25), 3)]),
  (48, [(.return_, 1)])]
def am_b709 : List (Nat × List (Instr × Nat)) := [
  (0, [(.aload_n 0, 1), (.iload_n 1, 1), (.iaload, 1), (.istore_n 3, 1), (.aload_n 0, 1), (.iload_n 1, 1), (.aload_n 0, 1), (.iload_n 2, 1), (.iaload, 1), (.iastore, 1), (.aload_n 0, 1), (.iload_n 2, 1), (.iload_n 3, 1), (.iastore, 1), (.return_, 1)])]
def am_b710 : List (Nat × List (Instr × Nat)) := [
  (0, [(.iload_n 2, 1), (.ifCond .lt 26, 3), (.iload_n 2, 1), (.aload_n 0, 1), (.getfield 22, 3), (.iload_n 1, 1), (.iaload, 1), (.if_icmp .ge 16, 3), (.aload_n 0, 1), (.getfield 25, 3), (.iload_n 1, 1), (.iconst 3, 1), (.imul, 1), (.iload_n 2, 1), (.iadd, 1), (.iaload, 1), (.goto 4, 3)]),
  (27, [(.iconst (-1), 1)]),
  (28, [(.ireturn, 1)])]
def am_b711 : List (Nat × List (Instr × Nat)) := [
  (0, [(.iconst 0, 1), (.istore_n 2, 1), (.iconst 0, 1), (.istore_n 3, 1)]),
  (4, [(.iload_n 3, 1), (.aload_n 0, 1), (.getfield 22, 3), (.iload_n 1, 1), (.iaload, 1), (.if_icmp .ge 24, 3), (.iload_n 2, 1), (.iconst 1, 1), (.aload_n 0, 1), (.getfield 25, 3), (.iload_n 1, 1), (.iconst 3, 1), (.imul, 1), (.iload_n 3, 1), (.iadd, 1), (.iaload, 1), (.ishl, 1), (.ior, 1), (.istore_n 2, 1), (.iinc 3 1, 3), (.goto (-28), 3)]),
  (35, [(.iload_n 2, 1), (.ireturn, 1)])]
def am_b712 : List (Nat × List (Instr × Nat)) := [
  (0, [(.aload_n 0, 1), (.iload_n 1, 1), (.invokevirtual 81, 3), (.iload_n 2, 1), (.ishr, 1), (.iconst 1, 1), (.iand, 1), (.ifCond .eq 7, 3), (.iconst 1, 1), (.goto 4, 3)]),
  (16, [(.iconst 0, 1)]),
  (17, [(.ireturn, 1)])]
def am_b713 : List (Nat × List (Instr × Nat)) := [
  (0, [(.iconst 0, 1), (.istore_n 3, 1), (.iconst 0, 1), (.istore 4, 2)]),
  (5, [(.iload 4, 2), (.iload_n 2, 1), (.if_icmp .ge 22, 3), (.aload_n 0, 1), (.iload 4, 2), (.iload_n 1, 1), (.invokevirtual 85, 3), (.ifCond .eq 6, 3), (.iinc 3 1, 3)]),
  (24, [(.iinc 4 1, 3), (.goto (-22), 3)]),
  (30, [(.iload_n 3, 1), (.ireturn, 1)])]
def am_b714 : List (Nat × List (Instr × Nat)) := [
  (0, [(.iconst 0, 1), (.istore_n 2, 1)]),
  (2, [(.iload_n 2, 1), (.aload_n 0, 1), (.getfield 59, 3), (.if_icmp .ge 20, 3), (.aload_n 0, 1), (.iload_n 2, 1), (.iload_n 1, 1), (.invokevirtual 85, 3), (.ifCond .eq 5, 3), (.iload_n 2, 1), (.ireturn, 1)]),
  (21, [(.iinc 2 1, 3), (.goto (-22), 3)]),
  (27, [(.iconst (-1), 1), (.ireturn, 1)])]
def am_b715 : List (Nat × List (Instr × Nat)) := [
  (0, [(.iconst 0, 1), (.istore_n 2, 1), (.iconst 0, 1), (.istore_n 3, 1)]),
  (4, [(.iload_n 3, 1), (.aload_n 0, 1), (.getfield 47, 3), (.if_icmp .ge 35, 3), (.iload_n 3, 1), (.iload_n 1, 1), (.if_icmp .eq 24, 3), (.aload_n 0, 1), (.getfield 15, 3), (.iload_n 3, 1), (.iaload, 1), (.aload_n 0, 1), (.getfield 15, 3), (.iload_n 1, 1), (.iaload, 1), (.if_icmp .ne 9, 3), (.iload_n 2, 1), (.iconst 1, 1), (.iload_n 3, 1), (.ishl, 1), (.ior, 1), (.istore_n 2, 1)]),
  (38, [(.iinc 3 1, 3), (.goto (-37), 3)]),
  (44, [(.iload_n 2, 1), (.ireturn, 1)])]
def am_b716 : List (Nat × List (Instr × Nat)) := [
  (0, [(.iconst 0, 1), (.istore_n 1, 1), (.iconst 0, 1), (.istore_n 2, 1)]),
  (4, [(.iload_n 2, 1), (.aload_n 0, 1), (.getfield 59, 3), (.if_icmp .ge 20, 3), (.iload_n 1, 1), (.iconst 1, 1), (.aload_n 0, 1), (.getfield 19, 3), (.iload_n 2, 1), (.iaload, 1), (.ishl, 1), (.ior, 1), (.istore_n 1, 1), (.iinc 2 1, 3), (.goto (-22), 3)]),
  (29, [(.iload_n 1, 1), (.ireturn, 1)])]
def am_b717 : List (Nat × List (Instr × Nat)) := [
  (0, [(.aload_n 0, 1), (.aload_n 0, 1), (.getfield 19, 3), (.iload_n 1, 1), (.iaload, 1), (.aload_n 0, 1), (.iload_n 1, 1), (.invokevirtual 81, 3), (.invokevirtual 89, 3), (.ireturn, 1)])]
def am_b718 : List (Nat × List (Instr × Nat)) := [
  (0, [(.iconst 0, 1), (.istore_n 3, 1), (.iconst 0, 1), (.istore 4, 2)]),
  (5, [(.iload 4, 2), (.aload_n 0, 1), (.getfield 47, 3), (.if_icmp .ge 28, 3), (.iload_n 2, 1), (.iload 4, 2), (.ishr, 1), (.iconst 1, 1), (.iand, 1), (.ifCond .eq 13, 3), (.iload_n 3, 1), (.aload_n 0, 1), (.getfield 15, 3), (.iload 4, 2), (.iaload, 1), (.ior, 1), (.istore_n 3, 1)]),
  (33, [(.iinc 4 1, 3), (.goto (-31), 3)]),
  (39, [(.aload_n 0, 1), (.getfield 34, 3), (.bipush 9, 2), (.aload_n 0, 1), (.getfield 15, 3), (.iload_n 1, 1), (.iaload, 1), (.iload_n 3, 1), (.iand, 1), (.invokestatic 92, 3), (.invokevirtual 97, 3), (.aload_n 0, 1), (.getfield 34, 3), (.bipush 10, 2), (.aload_n 0, 1), (.getfield 15, 3), (.iload_n 1, 1), (.iaload, 1), (.iload_n 3, 1), (.iconst (-1), 1), (.ixor, 1), (.iand, 1), (.invokestatic 92, 3), (.invokevirtual 97, 3), (.aload_n 0, 1), (.getfield 34, 3), (.bipush 11, 2), (.iload_n 3, 1), (.aload_n 0, 1), (.getfield 15, 3), (.iload_n 1, 1), (.iaload, 1), (.iconst (-1), 1), (.ixor, 1), (.iand, 1), (.invokestatic 92, 3), (.invokevirtual 97, 3), (.aload_n 0, 1), (.getfield 34, 3), (.bipush 12, 2), (.iload_n 2, 1), (.invokestatic 92, 3), (.invokevirtual 97, 3), (.aload_n 0, 1), (.getfield 34, 3), (.bipush 13, 2), (.aload_n 0, 1), (.iload_n 3, 1), (.iload_n 2, 1), (.iconst 1, 1), (.iload_n 1, 1), (.ishl, 1), (.ior, 1), (.invokevirtual 100, 3), (.invokevirtual 97, 3), (.aload_n 0, 1), (.getfield 34, 3), (.bipush 14, 2), (.iload_n 1, 1), (.invokevirtual 97, 3), (.aload_n 0, 1), (.getfield 34, 3), (.invokevirtual 104, 3), (.ireturn, 1)])]
def am_b719 : List (Nat × List (Instr × Nat)) := [
  (0, [(.iconst 0, 1), (.istore_n 3, 1), (.iconst 0, 1), (.istore 4, 2)]),
  (5, [(.iload 4, 2), (.aload_n 0, 1), (.getfield 47, 3), (.if_icmp .ge 35, 3), (.iload_n 2, 1), (.iload 4, 2), (.ishr, 1), (.iconst 1, 1), (.iand, 1), (.ifCond .ne 20, 3), (.aload_n 0, 1), (.getfield 15, 3), (.iload 4, 2), (.iaload, 1), (.iload_n 1, 1), (.iconst (-1), 1), (.ixor, 1), (.iand, 1), (.ifCond .ne 6, 3), (.iinc 3 1, 3)]),
  (40, [(.iinc 4 1, 3), (.goto (-38), 3)]),
  (46, [(.iload_n 3, 1), (.ireturn, 1)])]
def am_b720 : List (Nat × List (Instr × Nat)) := [
  (0, [(.aload_n 0, 1), (.iload_n 1, 1), (.invokevirtual 81, 3), (.iconst 1, 1), (.aload_n 0, 1), (.getfield 25, 3), (.iload_n 1, 1), (.iconst 3, 1), (.imul, 1), (.iload_n 2, 1), (.iadd, 1), (.iaload, 1), (.ishl, 1), (.iconst (-1), 1), (.ixor, 1), (.iand, 1), (.istore_n 3, 1), (.iload_n 3, 1), (.iconst 1, 1), (.aload_n 0, 1), (.getfield 19, 3), (.iload_n 1, 1), (.iaload, 1), (.ishl, 1), (.ior, 1), (.istore 4, 2), (.iconst 0, 1), (.istore 5, 2), (.iconst 0, 1), (.istore 6, 2)]),
  (39, [(.iload 6, 2), (.aload_n 0, 1), (.getfield 47, 3), (.if_icmp .ge 73, 3), (.iload 4, 2), (.iload 6, 2), (.ishr, 1), (.iconst 1, 1), (.iand, 1), (.ifCond .ne 21, 3), (.aload_n 0, 1), (.iload 6, 2), (.iload_n 1, 1), (.invokevirtual 108, 3), (.aload_n 0, 1), (.getfield 9, 3), (.if_icmp .ge 7, 3), (.iconst 1, 1), (.goto 4, 3)]),
  (76, [(.iconst 0, 1)]),
  (77, [(.istore 7, 2), (.iload 7, 2), (.ifCond .eq 31, 3), (.aload_n 0, 1), (.aload_n 0, 1), (.getfield 19, 3), (.iload_n 1, 1), (.iaload, 1), (.iload_n 3, 1), (.iconst 1, 1), (.iload 6, 2), (.ishl, 1), (.ior, 1), (.invokevirtual 89, 3), (.ifCond .eq 12, 3), (.iload 5, 2), (.iconst 1, 1), (.iload 6, 2), (.ishl, 1), (.ior, 1), (.istore 5, 2)]),
  (112, [(.iinc 6 1, 3), (.goto (-76), 3)]),
  (118, [(.iload 5, 2), (.ireturn, 1)])]
def am_b721 : List (Nat × List (Instr × Nat)) := [
  (0, [(.aload_n 0, 1), (.iload_n 1, 1), (.aload_n 0, 1), (.getfield 59, 3), (.invokevirtual 111, 3), (.istore_n 3, 1), (.aload_n 0, 1), (.iload_n 2, 1), (.iload_n 1, 1), (.invokevirtual 85, 3), (.ifCond .eq 9, 3), (.iload_n 3, 1), (.iconst 1, 1), (.isub, 1), (.goto 4, 3)]),
  (25, [(.iload_n 3, 1)]),
  (26, [(.ireturn, 1)])]
def am_b722 : List (Nat × List (Instr × Nat)) := [
  (0, [(.aload_n 0, 1), (.aload_n 0, 1), (.getfield 38, 3), (.ldc 114, 2), (.imul, 1), (.ldc 115, 2), (.iadd, 1), (.putfield 38, 3), (.iload_n 1, 1), (.ifCond .le 15, 3), (.aload_n 0, 1), (.getfield 38, 3), (.bipush 8, 2), (.iushr, 1), (.iload_n 1, 1), (.irem, 1), (.goto 4, 3)]),
  (30, [(.iconst 0, 1)]),
  (31, [(.ireturn, 1)])]
def am_b723 : List (Nat × List (Instr × Nat)) := [
  (0, [(.iconst 0, 1), (.istore_n 1, 1), (.iconst 0, 1), (.istore_n 2, 1)]),
  (4, [(.iload_n 2, 1), (.aload_n 0, 1), (.getfield 59, 3), (.if_icmp .ge 41, 3), (.aload_n 0, 1), (.getfield 41, 3), (.ifCond .le 28, 3), (.aload_n 0, 1), (.sipush 1000, 3), (.invokevirtual 116, 3), (.aload_n 0, 1), (.getfield 41, 3), (.if_icmp .ge 14, 3), (.aload_n 0, 1), (.iload_n 2, 1), (.invokevirtual 119, 3), (.ifCond .eq 6, 3), (.iinc 1 1, 3)]),
  (44, [(.iinc 2 1, 3), (.goto (-43), 3)]),
  (50, [(.aload_n 0, 1), (.dup, 1), (.getfield 44, 3), (.iconst 1, 1), (.iadd, 1), (.putfield 44, 3), (.iload_n 1, 1), (.ireturn, 1)])]
def am_b724 : List (Nat × List (Instr × Nat)) := [
  (0, [(.iload_n 1, 1), (.iconst 3, 1), (.imul, 1), (.aload_n 0, 1), (.aload_n 0, 1), (.getfield 22, 3), (.iload_n 1, 1), (.iaload, 1), (.invokevirtual 116, 3), (.iadd, 1), (.istore_n 2, 1), (.aload_n 0, 1), (.aload_n 0, 1), (.getfield 47, 3), (.invokevirtual 116, 3), (.istore_n 3, 1), (.iload_n 3, 1), (.aload_n 0, 1), (.getfield 19, 3), (.iload_n 1, 1), (.iaload, 1), (.if_icmp .eq 12, 3), (.aload_n 0, 1), (.iload_n 1, 1), (.iload_n 3, 1), (.invokevirtual 85, 3), (.ifCond .eq 5, 3)]),
  (43, [(.iconst 0, 1), (.ireturn, 1)]),
  (45, [(.aload_n 0, 1), (.iload_n 1, 1), (.aload_n 0, 1), (.getfield 25, 3), (.iload_n 2, 1), (.iaload, 1), (.iload_n 3, 1), (.invokevirtual 122, 3), (.aload_n 0, 1), (.getfield 25, 3), (.iload_n 2, 1), (.iload_n 3, 1), (.iastore, 1), (.iconst 1, 1), (.ireturn, 1)])]
def am_b725 : List (Nat × List (Instr × Nat)) := [
  (0, [(.aload_n 0, 1), (.getfield 62, 3), (.bipush 80, 2), (.if_icmp .lt 4, 3), (.return_, 1)]),
  (10, [(.aload_n 0, 1), (.getfield 62, 3), (.iconst 4, 1), (.imul, 1), (.istore 4, 2), (.aload_n 0, 1), (.getfield 28, 3), (.iload 4, 2), (.aload_n 0, 1), (.getfield 44, 3), (.iastore, 1), (.aload_n 0, 1), (.getfield 28, 3), (.iload 4, 2), (.iconst 1, 1), (.iadd, 1), (.iload_n 1, 1), (.iastore, 1), (.aload_n 0, 1), (.getfield 28, 3), (.iload 4, 2), (.iconst 2, 1), (.iadd, 1), (.iload_n 2, 1), (.iastore, 1), (.aload_n 0, 1), (.getfield 28, 3), (.iload 4, 2), (.iconst 3, 1), (.iadd, 1), (.iload_n 3, 1), (.iastore, 1), (.aload_n 0, 1), (.dup, 1), (.getfield 62, 3), (.iconst 1, 1), (.iadd, 1), (.putfield 62, 3), (.return_, 1)])]
def am_b801 : List (Nat × List (Instr × Nat)) := [
  (0, [(.aload_n 0, 1), (.iconst 0, 1), (.putfield 15, 3), (.aload_n 0, 1), (.iconst 0, 1), (.putfield 19, 3), (.iconst 0, 1), (.istore_n 2, 1)]),
  (12, [(.iload_n 2, 1), (.aload_n 0, 1), (.getfield 9, 3), (.arraylength, 1), (.if_icmp .ge 16, 3), (.aload_n 0, 1), (.getfield 9, 3), (.iload_n 2, 1), (.iconst (-1), 1), (.iastore, 1), (.iinc 2 1, 3), (.goto (-19), 3)]),
  (34, [(.iconst 0, 1), (.istore_n 2, 1)]),
  (36, [(.iload_n 2, 1), (.aload_n 1, 1), (.getfield 22, 3), (.if_icmp .ge 33, 3), (.aload_n 0, 1), (.dup, 1), (.getfield 19, 3), (.aload_n 1, 1), (.iload_n 2, 1), (.invokevirtual 27, 3), (.ifCond .eq 9, 3), (.iconst 1, 1), (.iload_n 2, 1), (.ishl, 1), (.goto 4, 3)]),
  (63, [(.iconst 0, 1)]),
  (64, [(.ior, 1), (.putfield 19, 3), (.iinc 2 1, 3), (.goto (-35), 3)]),
  (74, [(.iconst 0, 1), (.istore_n 2, 1)]),
  (76, [(.iload_n 2, 1), (.aload_n 1, 1), (.getfield 22, 3), (.if_icmp .ge 55, 3), (.iload_n 2, 1), (.iconst 1, 1), (.iadd, 1), (.istore_n 3, 1)]),
  (88, [(.iload_n 3, 1), (.aload_n 1, 1), (.getfield 22, 3), (.if_icmp .ge 37, 3), (.iconst 1, 1), (.iload_n 2, 1), (.ishl, 1), (.iconst 1, 1), (.iload_n 3, 1), (.ishl, 1), (.ior, 1), (.istore 4, 2), (.aload_n 0, 1), (.getfield 19, 3), (.iload 4, 2), (.iand, 1), (.iload 4, 2), (.if_icmp .eq 10, 3), (.aload_n 0, 1), (.aload_n 1, 1), (.iload_n 2, 1), (.iload_n 3, 1), (.invokevirtual 31, 3)]),
  (124, [(.iinc 3 1, 3), (.goto (-39), 3)]),
  (130, [(.iinc 2 1, 3), (.goto (-57), 3)]),
  (136, [(.return_, 1)])]
def am_b802 : List (Nat × List (Instr × Nat)) := [
  (0, [(.iconst 0, 1), (.istore 4, 2)]),
  (3, [(.iload 4, 2), (.aload_n 1, 1), (.getfield 35, 3), (.iload_n 2, 1), (.iaload, 1), (.if_icmp .ge 81, 3), (.iconst 0, 1), (.istore 5, 2)]),
  (17, [(.iload 5, 2), (.aload_n 1, 1), (.getfield 35, 3), (.iload_n 3, 1), (.iaload, 1), (.if_icmp .ge 61, 3), (.aload_n 1, 1), (.iload_n 2, 1), (.iload 4, 2), (.aload_n 1, 1), (.getfield 38, 3), (.iload_n 3, 1), (.iconst 3, 1), (.imul, 1), (.iload 5, 2), (.iadd, 1), (.iaload, 1), (.invokestatic 41, 3), (.ifCond .eq 34, 3), (.aload_n 1, 1), (.iload_n 3, 1), (.iload 5, 2), (.aload_n 1, 1), (.getfield 38, 3), (.iload_n 2, 1), (.iconst 3, 1), (.imul, 1), (.iload 4, 2), (.iadd, 1), (.iaload, 1), (.invokestatic 41, 3), (.ifCond .eq 13, 3), (.aload_n 0, 1), (.iload_n 2, 1), (.iload_n 3, 1), (.iload 4, 2), (.iload 5, 2), (.invokevirtual 45, 3)]),
  (80, [(.iinc 5 1, 3), (.goto (-66), 3)]),
  (86, [(.iinc 4 1, 3), (.goto (-86), 3)]),
  (92, [(.return_, 1)])]
def am_b803 : List (Nat × List (Instr × Nat)) := [
  (0, [(.aload_n 0, 1), (.getfield 49, 3), (.iload_n 1, 1), (.iaload, 1), (.istore 4, 2), (.aload_n 0, 1), (.iload_n 1, 1), (.invokevirtual 52, 3), (.iconst 1, 1), (.aload_n 0, 1), (.getfield 38, 3), (.iload_n 1, 1), (.iconst 3, 1), (.imul, 1), (.iload_n 2, 1), (.iadd, 1), (.iaload, 1), (.ishl, 1), (.iconst (-1), 1), (.ixor, 1), (.iand, 1), (.istore 5, 2), (.iload_n 3, 1), (.iload 4, 2), (.if_icmp .eq 12, 3), (.iload 5, 2), (.iload_n 3, 1), (.ishr, 1), (.iconst 1, 1), (.iand, 1), (.ifCond .eq 5, 3)]),
  (45, [(.iconst 0, 1), (.ireturn, 1)]),
  (47, [(.aload_n 0, 1), (.iload 4, 2), (.iload 5, 2), (.iconst 1, 1), (.iload_n 3, 1), (.ishl, 1), (.ior, 1), (.invokevirtual 56, 3), (.ireturn, 1)])]
def am_b804 : List (Nat × List (Instr × Nat)) := [
  (0, [(.aload_n 0, 1), (.getfield 15, 3), (.ifCond .ne 32, 3), (.aload_n 0, 1), (.getfield 9, 3), (.iconst 0, 1), (.iload_n 1, 1), (.iastore, 1), (.aload_n 0, 1), (.getfield 9, 3), (.iconst 1, 1), (.iload_n 2, 1), (.iastore, 1), (.aload_n 0, 1), (.getfield 9, 3), (.iconst 2, 1), (.iload_n 3, 1), (.iastore, 1), (.aload_n 0, 1), (.getfield 9, 3), (.iconst 3, 1), (.iload 4, 2), (.iastore, 1)]),
  (36, [(.aload_n 0, 1), (.dup, 1), (.getfield 15, 3), (.iconst 1, 1), (.iadd, 1), (.putfield 15, 3), (.return_, 1)])]
def am_b901 : List (Nat × List (Instr × Nat)) := [
  (0, [(.aload_n 0, 1), (.getfield 10, 3), (.getfield 73, 3), (.istore_n 2, 1), (.aload_n 0, 1), (.getfield 10, 3), (.iload_n 1, 1), (.putfield 73, 3), (.aload_n 0, 1), (.getfield 41, 3), (.invokevirtual 76, 3), (.iload_n 2, 1), (.ireturn, 1)])]
def am_b902 : List (Nat × List (Instr × Nat)) := [
  (0, [(.aload_n 0, 1), (.getfield 10, 3), (.getfield 79, 3), (.bipush 16, 2), (.if_icmp .ge 10, 3), (.iload_n 1, 1), (.invokestatic 82, 3), (.ifCond .ne 5, 3)]),
  (19, [(.iconst (-1), 1), (.ireturn, 1)]),
  (21, [(.aload_n 0, 1), (.getfield 10, 3), (.getfield 79, 3), (.istore_n 2, 1), (.aload_n 0, 1), (.getfield 10, 3), (.getfield 86, 3), (.iload_n 2, 1), (.iload_n 1, 1), (.iastore, 1), (.aload_n 0, 1), (.getfield 10, 3), (.iload_n 2, 1), (.iconst 1, 1), (.iadd, 1), (.putfield 79, 3), (.aload_n 0, 1), (.getfield 41, 3), (.invokevirtual 76, 3), (.iload_n 2, 1), (.ireturn, 1)])]
def am_b903 : List (Nat × List (Instr × Nat)) := [
  (0, [(.iload_n 1, 1), (.tableswitch 73 0 3 #[31, 41, 51, 62], 31)]),
  (32, [(.aload_n 0, 1), (.iload_n 3, 1), (.invokevirtual 90, 3), (.istore 4, 2), (.goto 38, 3)]),
  (42, [(.aload_n 0, 1), (.iload_n 3, 1), (.invokevirtual 93, 3), (.istore 4, 2), (.goto 28, 3)]),
  (52, [(.aload_n 0, 1), (.iload_n 2, 1), (.iload_n 3, 1), (.invokevirtual 96, 3), (.istore 4, 2), (.goto 17, 3)]),
  (63, [(.aload_n 0, 1), (.iload_n 2, 1), (.iload_n 3, 1), (.invokevirtual 100, 3), (.istore 4, 2), (.goto 6, 3)]),
  (74, [(.iconst 0, 1), (.istore 4, 2)]),
  (77, [(.iload 4, 2), (.ifCond .eq 10, 3), (.aload_n 0, 1), (.getfield 41, 3), (.invokevirtual 76, 3)]),
  (89, [(.iload 4, 2), (.ireturn, 1)])]
def am_b904 : List (Nat × List (Instr × Nat)) := [
  (0, [(.aload_n 0, 1), (.getfield 10, 3), (.getfield 103, 3), (.bipush 12, 2), (.if_icmp .ge 18, 3), (.aload_n 0, 1), (.getfield 10, 3), (.iload_n 1, 1), (.iload_n 2, 1), (.iload_n 3, 1), (.iload 4, 2), (.invokevirtual 106, 3), (.ifCond .ne 5, 3)]),
  (27, [(.iconst (-1), 1), (.ireturn, 1)]),
  (29, [(.aload_n 0, 1), (.getfield 10, 3), (.iload_n 1, 1), (.iload_n 2, 1), (.iload_n 3, 1), (.iload 4, 2), (.invokevirtual 110, 3), (.istore 5, 2), (.aload_n 0, 1), (.getfield 41, 3), (.invokevirtual 76, 3), (.iload 5, 2), (.ireturn, 1)])]
def am_b905 : List (Nat × List (Instr × Nat)) := [
  (0, [(.aload_n 0, 1), (.getfield 10, 3), (.iload_n 1, 1), (.invokevirtual 114, 3), (.ifCond .ne 5, 3), (.iconst 0, 1), (.ireturn, 1)]),
  (13, [(.aload_n 0, 1), (.getfield 10, 3), (.iload_n 1, 1), (.aload_n 0, 1), (.getfield 10, 3), (.getfield 103, 3), (.iconst 1, 1), (.isub, 1), (.invokevirtual 117, 3), (.aload_n 0, 1), (.getfield 10, 3), (.dup, 1), (.getfield 103, 3), (.iconst 1, 1), (.isub, 1), (.putfield 103, 3), (.aload_n 0, 1), (.getfield 41, 3), (.invokevirtual 76, 3), (.iconst 1, 1), (.ireturn, 1)])]
def am_b906 : List (Nat × List (Instr × Nat)) := [
  (0, [(.aload_n 0, 1), (.getfield 10, 3), (.iload_n 1, 1), (.invokevirtual 114, 3), (.ifCond .eq 14, 3), (.aload_n 0, 1), (.getfield 10, 3), (.iload_n 2, 1), (.invokevirtual 114, 3), (.ifCond .ne 5, 3)]),
  (22, [(.iconst 0, 1), (.ireturn, 1)]),
  (24, [(.aload_n 0, 1), (.getfield 10, 3), (.iload_n 1, 1), (.iload_n 2, 1), (.invokevirtual 117, 3), (.aload_n 0, 1), (.getfield 41, 3), (.invokevirtual 76, 3), (.iconst 1, 1), (.ireturn, 1)])]
def am_b907 : List (Nat × List (Instr × Nat)) := [
  (0, [(.aload_n 0, 1), (.getfield 27, 3), (.bipush 20, 2), (.iadd, 1), (.sipush 400, 3), (.if_icmp .le 5, 3), (.iconst (-1), 1), (.ireturn, 1)]),
  (15, [(.aload_n 0, 1), (.iload_n 1, 1), (.invokevirtual 121, 3), (.aload_n 0, 1), (.iload_n 2, 1), (.invokevirtual 121, 3), (.aload_n 0, 1), (.iload_n 3, 1), (.invokevirtual 121, 3), (.aload_n 0, 1), (.iload 4, 2), (.invokevirtual 121, 3), (.aload_n 0, 1), (.iload 5, 2), (.invokevirtual 121, 3), (.aload_n 0, 1), (.getfield 27, 3), (.ireturn, 1)])]
def am_b908 : List (Nat × List (Instr × Nat)) := [
  (0, [(.iload_n 1, 1), (.ifCond .lt 11, 3), (.iload_n 1, 1), (.aload_n 0, 1), (.getfield 27, 3), (.if_icmp .le 5, 3)]),
  (12, [(.iconst 0, 1), (.ireturn, 1)]),
  (14, [(.aload_n 0, 1), (.iload_n 1, 1), (.putfield 27, 3), (.iconst 1, 1), (.ireturn, 1)])]
def am_b909 : List (Nat × List (Instr × Nat)) := [
  (0, [(.aload_n 0, 1), (.getfield 34, 3), (.aload_n 0, 1), (.getfield 23, 3), (.aload_n 0, 1), (.getfield 27, 3), (.invokevirtual 125, 3), (.aload_n 0, 1), (.iconst 0, 1), (.putfield 27, 3), (.iconst 1, 1), (.istore_n 1, 1), (.iconst 0, 1), (.istore_n 2, 1)]),
  (24, [(.iload_n 2, 1), (.bipush 16, 2), (.if_icmp .gt 31, 3), (.iload_n 1, 1), (.ifCond .eq 27, 3), (.aload_n 0, 1), (.getfield 34, 3), (.invokevirtual 129, 3), (.ifCond .eq 17, 3), (.aload_n 0, 1), (.getfield 34, 3), (.invokevirtual 133, 3), (.istore_n 1, 1), (.iinc 2 1, 3), (.goto (-31), 3)]),
  (58, [(.iload_n 1, 1), (.ifCond .ne 5, 3), (.iconst (-1), 1), (.ireturn, 1)]),
  (64, [(.aload_n 0, 1), (.getfield 10, 3), (.getfield 136, 3), (.aload_n 0, 1), (.getfield 34, 3), (.getfield 140, 3), (.invokevirtual 141, 3), (.aload_n 0, 1), (.getfield 10, 3), (.getfield 136, 3), (.getfield 147, 3), (.ireturn, 1)])]
def am_b910 : List (Nat × List (Instr × Nat)) := [
  (0, [(.iload_n 1, 1), (.lookupswitch 43 #[(0, 27), (1, 35)], 27)]),
  (28, [(.aload_n 0, 1), (.getfield 34, 3), (.getfield 150, 3), (.ireturn, 1)]),
  (36, [(.aload_n 0, 1), (.getfield 34, 3), (.getfield 153, 3), (.ireturn, 1)]),
  (44, [(.iconst (-1), 1), (.ireturn, 1)])]
def am_b911 : List (Nat × List (Instr × Nat)) := [
  (0, [(.iload_n 1, 1), (.iconst 1, 1), (.if_icmp .lt 24, 3), (.iload_n 1, 1), (.bipush 50, 2), (.if_icmp .gt 18, 3), (.aload_n 0, 1), (.getfield 10, 3), (.getfield 156, 3), (.iload_n 1, 1), (.iadd, 1), (.sipush 9999, 3), (.if_icmp .le 5, 3)]),
  (26, [(.iconst (-1), 1), (.ireturn, 1)]),
  (28, [(.iconst 0, 1), (.istore_n 2, 1), (.iconst 0, 1), (.istore_n 3, 1)]),
  (32, [(.iload_n 3, 1), (.iload_n 1, 1), (.if_icmp .ge 30, 3), (.aload_n 0, 1), (.getfield 41, 3), (.aload_n 0, 1), (.getfield 10, 3), (.invokevirtual 159, 3), (.iload_n 2, 1), (.aload_n 0, 1), (.getfield 10, 3), (.invokevirtual 163, 3), (.iadd, 1), (.istore_n 2, 1), (.iinc 3 1, 3), (.goto (-29), 3)]),
  (64, [(.iload_n 2, 1), (.ireturn, 1)])]
def am_b912 : List (Nat × List (Instr × Nat)) := [
  (0, [(.aload_n 0, 1), (.getfield 10, 3), (.iload_n 1, 1), (.invokevirtual 167, 3), (.ifCond .ne 6, 3), (.bipush (-2), 2), (.ireturn, 1)]),
  (14, [(.iload_n 2, 1), (.tableswitch 89 0 4 #[33, 43, 55, 71, 80], 33)]),
  (48, [(.aload_n 0, 1), (.getfield 10, 3), (.getfield 86, 3), (.iload_n 1, 1), (.iaload, 1), (.ireturn, 1)]),
  (58, [(.aload_n 0, 1), (.getfield 10, 3), (.getfield 170, 3), (.iload_n 1, 1), (.ishr, 1), (.iconst 1, 1), (.iand, 1), (.ireturn, 1)]),
  (70, [(.aload_n 0, 1), (.getfield 10, 3), (.iload_n 1, 1), (.aload_n 0, 1), (.getfield 10, 3), (.getfield 103, 3), (.invokevirtual 173, 3), (.ireturn, 1)]),
  (86, [(.aload_n 0, 1), (.getfield 10, 3), (.iload_n 1, 1), (.invokevirtual 177, 3), (.ireturn, 1)]),
  (95, [(.aload_n 0, 1), (.getfield 10, 3), (.iload_n 1, 1), (.invokevirtual 181, 3), (.ireturn, 1)]),
  (104, [(.bipush (-2), 2), (.ireturn, 1)])]
def am_b913 : List (Nat × List (Instr × Nat)) := [
  (0, [(.aload_n 0, 1), (.getfield 10, 3), (.iload_n 1, 1), (.invokevirtual 114, 3), (.ifCond .ne 5, 3), (.iconst (-1), 1), (.ireturn, 1)]),
  (13, [(.iload_n 2, 1), (.tableswitch 63 0 2 #[26, 36, 46], 26)]),
  (40, [(.aload_n 0, 1), (.getfield 10, 3), (.getfield 184, 3), (.iload_n 1, 1), (.iaload, 1), (.ireturn, 1)]),
  (50, [(.aload_n 0, 1), (.getfield 10, 3), (.getfield 187, 3), (.iload_n 1, 1), (.iaload, 1), (.ireturn, 1)]),
  (60, [(.aload_n 0, 1), (.getfield 10, 3), (.iload_n 1, 1), (.invokevirtual 190, 3), (.ifCond .eq 7, 3), (.iconst 1, 1), (.goto 4, 3)]),
  (75, [(.iconst 0, 1)]),
  (76, [(.ireturn, 1)]),
  (77, [(.iload_n 2, 1), (.bipush 10, 2), (.if_icmp .lt 18, 3), (.aload_n 0, 1), (.getfield 10, 3), (.iload_n 1, 1), (.iload_n 2, 1), (.bipush 10, 2), (.isub, 1), (.invokevirtual 193, 3), (.goto 4, 3)]),
  (98, [(.iconst (-1), 1)]),
  (99, [(.ireturn, 1)])]
def am_b914 : List (Nat × List (Instr × Nat)) := [
  (0, [(.aload_n 0, 1), (.getfield 10, 3), (.iload_n 1, 1), (.invokevirtual 167, 3), (.ifCond .eq 26, 3), (.aload_n 0, 1), (.getfield 10, 3), (.iload_n 2, 1), (.invokevirtual 196, 3), (.ifCond .eq 15, 3), (.iload_n 2, 1), (.ifCond .eq 11, 3), (.iload_n 2, 1), (.iload_n 1, 1), (.ishr, 1), (.iconst 1, 1), (.iand, 1), (.ifCond .eq 5, 3)]),
  (34, [(.iconst (-1), 1), (.ireturn, 1)]),
  (36, [(.aload_n 0, 1), (.getfield 10, 3), (.iload_n 1, 1), (.iload_n 2, 1), (.invokevirtual 199, 3), (.ifCond .eq 7, 3), (.iconst 1, 1), (.goto 4, 3)]),
  (52, [(.iconst 0, 1)]),
  (53, [(.ireturn, 1)])]
def am_b915 : List (Nat × List (Instr × Nat)) := [
  (0, [(.aload_n 0, 1), (.getfield 48, 3), (.aload_n 0, 1), (.getfield 10, 3), (.invokevirtual 202, 3), (.iload_n 1, 1), (.tableswitch 52 0 2 #[28, 36, 44], 28)]),
  (40, [(.aload_n 0, 1), (.getfield 48, 3), (.getfield 205, 3), (.ireturn, 1)]),
  (48, [(.aload_n 0, 1), (.getfield 48, 3), (.getfield 208, 3), (.ireturn, 1)]),
  (56, [(.aload_n 0, 1), (.getfield 48, 3), (.getfield 211, 3), (.ireturn, 1)]),
  (64, [(.iconst (-1), 1), (.ireturn, 1)])]
def am_b916 : List (Nat × List (Instr × Nat)) := [
  (0, [(.aload_n 0, 1), (.getfield 10, 3), (.iload_n 1, 1), (.invokevirtual 196, 3), (.ifCond .eq 12, 3), (.iload_n 2, 1), (.ifCond .lt 8, 3), (.iload_n 2, 1), (.iconst 1, 1), (.if_icmp .le 5, 3)]),
  (20, [(.iconst (-1), 1), (.ireturn, 1)]),
  (22, [(.aload_n 0, 1), (.getfield 55, 3), (.aload_n 0, 1), (.getfield 10, 3), (.invokevirtual 214, 3), (.aload_n 0, 1), (.getfield 55, 3), (.iload_n 1, 1), (.invokevirtual 217, 3), (.iload_n 2, 1), (.ifCond .ne 13, 3), (.aload_n 0, 1), (.getfield 55, 3), (.getfield 220, 3), (.goto 10, 3)]),
  (55, [(.aload_n 0, 1), (.getfield 55, 3), (.getfield 223, 3)]),
  (62, [(.ireturn, 1)])]
def am_b917 : List (Nat × List (Instr × Nat)) := [
  (0, [(.aload_n 0, 1), (.getfield 55, 3), (.aload_n 0, 1), (.getfield 10, 3), (.invokevirtual 226, 3), (.iload_n 1, 1), (.ifCond .lt 26, 3), (.iload_n 1, 1), (.aload_n 0, 1), (.getfield 55, 3), (.getfield 229, 3), (.if_icmp .ge 15, 3), (.aload_n 0, 1), (.getfield 55, 3), (.getfield 232, 3), (.iload_n 1, 1), (.iaload, 1), (.goto 4, 3)]),
  (38, [(.iconst (-1), 1)]),
  (39, [(.ireturn, 1)])]
def am_b918 : List (Nat × List (Instr × Nat)) := [
  (0, [(.aload_n 0, 1), (.getfield 55, 3), (.aload_n 0, 1), (.getfield 10, 3), (.invokevirtual 226, 3), (.aload_n 0, 1), (.getfield 55, 3), (.getfield 235, 3), (.ireturn, 1)])]
def am_b919 : List (Nat × List (Instr × Nat)) := [
  (0, [(.aload_n 0, 1), (.getfield 55, 3), (.aload_n 0, 1), (.getfield 10, 3), (.invokevirtual 238, 3), (.aload_n 0, 1), (.getfield 55, 3), (.aload_n 0, 1), (.getfield 10, 3), (.getfield 170, 3), (.aload_n 0, 1), (.getfield 55, 3), (.invokevirtual 241, 3), (.invokevirtual 244, 3), (.ireturn, 1)])]
def am_b920 : List (Nat × List (Instr × Nat)) := [
  (0, [(.aload_n 0, 1), (.getfield 55, 3), (.aload_n 0, 1), (.getfield 10, 3), (.invokevirtual 214, 3), (.aload_n 0, 1), (.getfield 55, 3), (.iconst 0, 1), (.aload_n 0, 1), (.getfield 10, 3), (.invokevirtual 247, 3), (.invokevirtual 244, 3), (.ireturn, 1)])]
def am_b921 : List (Nat × List (Instr × Nat)) := [
  (0, [(.iload_n 2, 1), (.ifCond .eq 23, 3), (.iload_n 2, 1), (.bipush 10, 2), (.if_icmp .lt 21, 3), (.aload_n 0, 1), (.getfield 10, 3), (.iload_n 2, 1), (.bipush 10, 2), (.isub, 1), (.invokevirtual 167, 3), (.ifCond .eq 7, 3)]),
  (24, [(.iconst 1, 1), (.goto 4, 3)]),
  (28, [(.iconst 0, 1)]),
  (29, [(.istore_n 3, 1), (.iload_n 1, 1), (.iconst 1, 1), (.if_icmp .lt 24, 3), (.iload_n 1, 1), (.iconst 3, 1), (.if_icmp .gt 19, 3), (.aload_n 0, 1), (.getfield 10, 3), (.getfield 79, 3), (.bipush 7, 2), (.if_icmp .gt 7, 3), (.iload_n 3, 1), (.ifCond .ne 5, 3)]),
  (56, [(.iconst (-1), 1), (.ireturn, 1)]),
  (58, [(.aload_n 0, 1), (.getfield 69, 3), (.aload_n 0, 1), (.getfield 10, 3), (.iload_n 1, 1), (.invokevirtual 250, 3), (.iload_n 2, 1), (.ifCond .ne 13, 3), (.aload_n 0, 1), (.getfield 69, 3), (.getfield 254, 3), (.goto 15, 3)]),
  (84, [(.aload_n 0, 1), (.getfield 69, 3), (.getfield 257, 3), (.iload_n 2, 1), (.bipush 10, 2), (.isub, 1), (.iaload, 1)]),
  (96, [(.ireturn, 1)])]
def am_b922 : List (Nat × List (Instr × Nat)) := [
  (0, [(.aload_n 0, 1), (.getfield 10, 3), (.iload_n 1, 1), (.invokevirtual 114, 3), (.ifCond .eq 20, 3), (.iload_n 2, 1), (.ifCond .lt 16, 3), (.iload_n 2, 1), (.aload_n 0, 1), (.getfield 10, 3), (.getfield 187, 3), (.iload_n 1, 1), (.iaload, 1), (.if_icmp .lt 5, 3)]),
  (28, [(.iconst (-1), 1), (.ireturn, 1)]),
  (30, [(.aload_n 0, 1), (.getfield 10, 3), (.iload_n 1, 1), (.iload_n 2, 1), (.invokevirtual 260, 3), (.ireturn, 1)])]
def am_b923 : List (Nat × List (Instr × Nat)) := [
  (0, [(.iload_n 1, 1), (.ifCond .lt 8, 3), (.iload_n 1, 1), (.iconst 4, 1), (.if_icmp .le 5, 3)]),
  (9, [(.iconst (-1), 1), (.ireturn, 1)]),
  (11, [(.aload_n 0, 1), (.getfield 62, 3), (.aload_n 0, 1), (.getfield 10, 3), (.invokevirtual 263, 3), (.iload_n 1, 1), (.ifCond .ne 13, 3), (.aload_n 0, 1), (.getfield 62, 3), (.getfield 266, 3), (.goto 14, 3)]),
  (36, [(.aload_n 0, 1), (.getfield 62, 3), (.getfield 269, 3), (.iload_n 1, 1), (.iconst 1, 1), (.isub, 1), (.iaload, 1)]),
  (47, [(.ireturn, 1)])]
def am_b924 : List (Nat × List (Instr × Nat)) := [
  (0, [(.iload_n 1, 1), (.ifCond .lt 23, 3), (.iload_n 1, 1), (.aload_n 0, 1), (.getfield 10, 3), (.getfield 272, 3), (.if_icmp .ge 12, 3), (.iload_n 2, 1), (.ifCond .lt 8, 3), (.iload_n 2, 1), (.iconst 4, 1), (.if_icmp .lt 5, 3)]),
  (24, [(.iconst (-1), 1), (.ireturn, 1)]),
  (26, [(.aload_n 0, 1), (.getfield 10, 3), (.getfield 275, 3), (.iload_n 1, 1), (.iconst 4, 1), (.imul, 1), (.iload_n 2, 1), (.iadd, 1), (.iaload, 1), (.ireturn, 1)])]
def am_b925 : List (Nat × List (Instr × Nat)) := [
  (0, [(.aload_n 0, 1), (.getfield 41, 3), (.getfield 278, 3), (.ifCond .ne 5, 3), (.iconst 0, 1), (.ireturn, 1)]),
  (12, [(.aload_n 0, 1), (.getfield 41, 3), (.aload_n 0, 1), (.getfield 10, 3), (.invokevirtual 281, 3), (.iconst 1, 1), (.ireturn, 1)])]
def am_b926 : List (Nat × List (Instr × Nat)) := [
  (0, [(.iload_n 1, 1), (.ifCond .eq 21, 3), (.aload_n 0, 1), (.getfield 16, 3), (.aload_n 0, 1), (.getfield 10, 3), (.invokevirtual 284, 3), (.aload_n 0, 1), (.iconst 1, 1), (.putfield 19, 3), (.iconst 1, 1), (.ireturn, 1)]),
  (22, [(.aload_n 0, 1), (.getfield 19, 3), (.ifCond .ne 5, 3), (.iconst 0, 1), (.ireturn, 1)]),
  (31, [(.aload_n 0, 1), (.getfield 10, 3), (.aload_n 0, 1), (.getfield 16, 3), (.invokevirtual 284, 3), (.aload_n 0, 1), (.getfield 41, 3), (.invokevirtual 76, 3), (.iconst 1, 1), (.ireturn, 1)])]
def am_b927 : List (Nat × List (Instr × Nat)) := [
  (0, [(.iload_n 1, 1), (.tableswitch 126 0 8 #[51, 59, 67, 75, 83, 91, 99, 107, 118], 51)]),
  (52, [(.aload_n 0, 1), (.getfield 10, 3), (.getfield 79, 3), (.ireturn, 1)]),
  (60, [(.aload_n 0, 1), (.getfield 10, 3), (.getfield 103, 3), (.ireturn, 1)]),
  (68, [(.aload_n 0, 1), (.getfield 10, 3), (.getfield 286, 3), (.ireturn, 1)]),
  (76, [(.aload_n 0, 1), (.getfield 10, 3), (.getfield 289, 3), (.ireturn, 1)]),
  (84, [(.aload_n 0, 1), (.getfield 10, 3), (.getfield 156, 3), (.ireturn, 1)]),
  (92, [(.aload_n 0, 1), (.getfield 10, 3), (.getfield 272, 3), (.ireturn, 1)]),
  (100, [(.aload_n 0, 1), (.getfield 10, 3), (.getfield 73, 3), (.ireturn, 1)]),
  (108, [(.aload_n 0, 1), (.getfield 10, 3), (.getfield 136, 3), (.getfield 147, 3), (.ireturn, 1)]),
  (119, [(.aload_n 0, 1), (.getfield 41, 3), (.getfield 278, 3), (.ireturn, 1)]),
  (127, [(.iconst (-1), 1), (.ireturn, 1)])]
def am_b928 : List (Nat × List (Instr × Nat)) := [
  (0, [(.iload_n 0, 1), (.iconst 1, 1), (.if_icmp .lt 14, 3), (.iload_n 0, 1), (.sipush 1023, 3), (.if_icmp .gt 7, 3), (.iconst 1, 1), (.goto 4, 3)]),
  (16, [(.iconst 0, 1)]),
  (17, [(.ireturn, 1)])]
def am_b929 : List (Nat × List (Instr × Nat)) := [
  (0, [(.iload_n 1, 1), (.iconst 1, 1), (.if_icmp .lt 8, 3), (.iload_n 1, 1), (.iconst 3, 1), (.if_icmp .le 5, 3)]),
  (10, [(.iconst 0, 1), (.ireturn, 1)]),
  (12, [(.aload_n 0, 1), (.getfield 10, 3), (.iload_n 1, 1), (.putfield 286, 3), (.iconst 1, 1), (.ireturn, 1)])]
def am_b930 : List (Nat × List (Instr × Nat)) := [
  (0, [(.iload_n 1, 1), (.ifCond .lt 10, 3), (.iload_n 1, 1), (.sipush 1000, 3), (.if_icmp .le 5, 3)]),
  (11, [(.iconst 0, 1), (.ireturn, 1)]),
  (13, [(.aload_n 0, 1), (.getfield 10, 3), (.iload_n 1, 1), (.putfield 289, 3), (.iconst 1, 1), (.ireturn, 1)])]
def am_b931 : List (Nat × List (Instr × Nat)) := [
  (0, [(.aload_n 0, 1), (.getfield 10, 3), (.iload_n 1, 1), (.invokevirtual 167, 3), (.ifCond .eq 12, 3), (.iload_n 2, 1), (.ifCond .lt 8, 3), (.iload_n 2, 1), (.iconst 1, 1), (.if_icmp .le 5, 3)]),
  (20, [(.iconst 0, 1), (.ireturn, 1)]),
  (22, [(.aload_n 0, 1), (.getfield 10, 3), (.aload_n 0, 1), (.getfield 10, 3), (.getfield 170, 3), (.iconst 1, 1), (.iload_n 1, 1), (.ishl, 1), (.iconst (-1), 1), (.ixor, 1), (.iand, 1), (.iload_n 2, 1), (.iload_n 1, 1), (.ishl, 1), (.ior, 1), (.putfield 170, 3), (.iconst 1, 1), (.ireturn, 1)])]
def am_b932 : List (Nat × List (Instr × Nat)) := [
  (0, [(.aload_n 0, 1), (.getfield 10, 3), (.iload_n 1, 1), (.invokevirtual 167, 3), (.ifCond .eq 10, 3), (.iload_n 2, 1), (.invokestatic 82, 3), (.ifCond .ne 5, 3)]),
  (18, [(.iconst 0, 1), (.ireturn, 1)]),
  (20, [(.aload_n 0, 1), (.getfield 10, 3), (.getfield 86, 3), (.iload_n 1, 1), (.iload_n 2, 1), (.iastore, 1), (.iconst 1, 1), (.ireturn, 1)])]
def am_b933 : List (Nat × List (Instr × Nat)) := [
  (0, [(.bipush 24, 2), (.istore_n 2, 1)]),
  (3, [(.iload_n 2, 1), (.ifCond .lt 44, 3), (.aload_n 0, 1), (.getfield 27, 3), (.aload_n 0, 1), (.getfield 23, 3), (.arraylength, 1), (.if_icmp .ge 32, 3), (.aload_n 0, 1), (.getfield 23, 3), (.aload_n 0, 1), (.getfield 27, 3), (.iload_n 1, 1), (.iload_n 2, 1), (.ishr, 1), (.i2b, 1), (.bastore, 1), (.aload_n 0, 1), (.dup, 1), (.getfield 27, 3), (.iconst 1, 1), (.iadd, 1), (.putfield 27, 3), (.iinc 2 (-8), 3), (.goto (-42), 3)]),
  (48, [(.return_, 1)])]
def am_b1001 : List (Nat × List (Instr × Nat)) := [
  (0, [(.iload_n 0, 1), (.iload_n 1, 1), (.if_icmp .lt 12, 3), (.iload_n 0, 1), (.iload_n 2, 1), (.if_icmp .gt 7, 3), (.iconst 1, 1), (.goto 4, 3)]),
  (14, [(.iconst 0, 1)]),
  (15, [(.ireturn, 1)])]
def am_b1002 : List (Nat × List (Instr × Nat)) := [
  (0, [(.iload_n 1, 1), (.iconst 0, 1), (.aload_n 0, 1), (.getfield 7, 3), (.iconst 0, 1), (.iaload, 1), (.iconst 1, 1), (.isub, 1), (.invokestatic 64, 3), (.ireturn, 1)])]
def am_b1003 : List (Nat × List (Instr × Nat)) := [
  (0, [(.iload_n 1, 1), (.iconst 0, 1), (.aload_n 0, 1), (.getfield 7, 3), (.iconst 1, 1), (.iaload, 1), (.iconst 1, 1), (.isub, 1), (.invokestatic 64, 3), (.ireturn, 1)])]
def am_b1004 : List (Nat × List (Instr × Nat)) := [
  (0, [(.iload_n 1, 1), (.iconst 0, 1), (.iconst 1, 1), (.aload_n 0, 1), (.getfield 7, 3), (.iconst 0, 1), (.iaload, 1), (.ishl, 1), (.iconst 1, 1), (.isub, 1), (.invokestatic 64, 3), (.ireturn, 1)])]
def am_b1005 : List (Nat × List (Instr × Nat)) := [
  (0, [(.aload_n 0, 1), (.getfield 7, 3), (.bipush 45, 2), (.iconst 5, 1), (.iload_n 1, 1), (.imul, 1), (.iadd, 1), (.iload_n 2, 1), (.iadd, 1), (.iaload, 1), (.ireturn, 1)])]
def am_b1006 : List (Nat × List (Instr × Nat)) := [
  (0, [(.aload_n 0, 1), (.getfield 7, 3), (.bipush 45, 2), (.iconst 5, 1), (.iload_n 1, 1), (.imul, 1), (.iadd, 1), (.iload_n 2, 1), (.iadd, 1), (.iload_n 3, 1), (.iastore, 1), (.return_, 1)])]
def am_b1007 : List (Nat × List (Instr × Nat)) := [
  (0, [(.iconst 0, 1), (.istore_n 1, 1), (.iconst 0, 1), (.istore_n 2, 1)]),
  (4, [(.iload_n 2, 1), (.bipush 16, 2), (.if_icmp .ge 17, 3), (.iload_n 1, 1), (.iload_n 0, 1), (.iload_n 2, 1), (.ishr, 1), (.iconst 1, 1), (.iand, 1), (.iadd, 1), (.istore_n 1, 1), (.iinc 2 1, 3), (.goto (-17), 3)]),
  (24, [(.iload_n 1, 1), (.ireturn, 1)])]
def am_b1008 : List (Nat × List (Instr × Nat)) := [
  (0, [(.aload_n 0, 1), (.iconst 0, 1), (.putfield 68, 3), (.return_, 1)])]
def am_b1009 : List (Nat × List (Instr × Nat)) := [
  (0, [(.aload_n 0, 1), (.getfield 7, 3), (.bipush 6, 2), (.iaload, 1), (.istore_n 2, 1), (.aload_n 0, 1), (.getfield 7, 3), (.bipush 6, 2), (.iload_n 1, 1), (.iastore, 1), (.aload_n 0, 1), (.invokevirtual 71, 3), (.iload_n 2, 1), (.ireturn, 1)])]
def am_b1010 : List (Nat × List (Instr × Nat)) := [
  (0, [(.aload_n 0, 1), (.getfield 7, 3), (.bipush 6, 2), (.ldc 74, 2), (.aload_n 0, 1), (.getfield 7, 3), (.bipush 6, 2), (.iaload, 1), (.imul, 1), (.ldc 75, 2), (.iadd, 1), (.iastore, 1), (.aload_n 0, 1), (.getfield 7, 3), (.bipush 6, 2), (.iaload, 1), (.bipush 8, 2), (.iushr, 1), (.iload_n 1, 1), (.irem, 1), (.ireturn, 1)])]
def am_b1011 : List (Nat × List (Instr × Nat)) := [
  (0, [(.iload_n 1, 1), (.iconst 1, 1), (.sipush 1023, 3), (.invokestatic 64, 3), (.ifCond .eq 14, 3), (.aload_n 0, 1), (.getfield 7, 3), (.iconst 0, 1), (.iaload, 1), (.bipush 16, 2), (.if_icmp .ne 5, 3)]),
  (22, [(.iconst (-1), 1), (.ireturn, 1)]),
  (24, [(.aload_n 0, 1), (.getfield 7, 3), (.bipush 10, 2), (.aload_n 0, 1), (.getfield 7, 3), (.iconst 0, 1), (.iaload, 1), (.iadd, 1), (.iload_n 1, 1), (.iastore, 1), (.aload_n 0, 1), (.getfield 7, 3), (.bipush 26, 2), (.aload_n 0, 1), (.getfield 7, 3), (.iconst 0, 1), (.iaload, 1), (.iadd, 1), (.iconst 0, 1), (.iastore, 1), (.aload_n 0, 1), (.getfield 7, 3), (.iconst 0, 1), (.dup2, 1), (.iaload, 1), (.iconst 1, 1), (.iadd, 1), (.iastore, 1), (.aload_n 0, 1), (.invokevirtual 71, 3), (.aload_n 0, 1), (.getfield 7, 3), (.iconst 0, 1), (.iaload, 1), (.iconst 1, 1), (.isub, 1), (.ireturn, 1)])]
def am_b1012 : List (Nat × List (Instr × Nat)) := [
  (0, [(.iload_n 1, 1), (.ifCond .ne 22, 3), (.iload_n 3, 1), (.iconst 1, 1), (.iconst 3, 1), (.invokestatic 64, 3), (.ifCond .eq 13, 3), (.aload_n 0, 1), (.getfield 7, 3), (.iconst 2, 1), (.iload_n 3, 1), (.iastore, 1), (.goto 103, 3)]),
  (23, [(.iload_n 1, 1), (.iconst 1, 1), (.if_icmp .ne 24, 3), (.iload_n 3, 1), (.iconst 0, 1), (.sipush 1000, 3), (.invokestatic 64, 3), (.ifCond .eq 13, 3), (.aload_n 0, 1), (.getfield 7, 3), (.iconst 3, 1), (.iload_n 3, 1), (.iastore, 1), (.goto 77, 3)]),
  (49, [(.iload_n 1, 1), (.iconst 2, 1), (.if_icmp .ne 33, 3), (.aload_n 0, 1), (.iload_n 2, 1), (.invokevirtual 76, 3), (.ifCond .eq 25, 3), (.iload_n 3, 1), (.iconst 0, 1), (.iconst 1, 1), (.invokestatic 64, 3), (.ifCond .eq 16, 3), (.aload_n 0, 1), (.getfield 7, 3), (.bipush 26, 2), (.iload_n 2, 1), (.iadd, 1), (.iload_n 3, 1), (.iastore, 1), (.goto 42, 3)]),
  (84, [(.iload_n 1, 1), (.iconst 3, 1), (.if_icmp .ne 35, 3), (.aload_n 0, 1), (.iload_n 2, 1), (.invokevirtual 76, 3), (.ifCond .eq 27, 3), (.iload_n 3, 1), (.iconst 1, 1), (.sipush 1023, 3), (.invokestatic 64, 3), (.ifCond .eq 16, 3), (.aload_n 0, 1), (.getfield 7, 3), (.bipush 10, 2), (.iload_n 2, 1), (.iadd, 1), (.iload_n 3, 1), (.iastore, 1), (.goto 5, 3)]),
  (121, [(.iconst 0, 1), (.ireturn, 1)]),
  (123, [(.aload_n 0, 1), (.invokevirtual 71, 3), (.iconst 1, 1), (.ireturn, 1)])]
def am_b1013 : List (Nat × List (Instr × Nat)) := [
  (0, [(.aload_n 0, 1), (.iload_n 1, 1), (.invokevirtual 76, 3), (.ifCond .eq 23, 3), (.iload_n 1, 1), (.iload_n 2, 1), (.if_icmp .eq 18, 3), (.iload_n 1, 1), (.iload_n 3, 1), (.if_icmp .eq 13, 3), (.iload_n 1, 1), (.iload 4, 2), (.if_icmp .eq 7, 3), (.iconst 1, 1), (.goto 4, 3)]),
  (28, [(.iconst 0, 1)]),
  (29, [(.ireturn, 1)])]
def am_b1014 : List (Nat × List (Instr × Nat)) := [
  (0, [(.aload_n 0, 1), (.iload_n 1, 1), (.invokevirtual 76, 3), (.ifCond .eq 64, 3), (.aload_n 0, 1), (.iload_n 2, 1), (.iload_n 1, 1), (.iconst (-1), 1), (.iconst (-1), 1), (.invokevirtual 80, 3), (.ifCond .eq 53, 3), (.iload_n 3, 1), (.iconst (-1), 1), (.if_icmp .eq 14, 3), (.aload_n 0, 1), (.iload_n 3, 1), (.iload_n 1, 1), (.iload_n 2, 1), (.iconst (-1), 1), (.invokevirtual 80, 3), (.ifCond .eq 37, 3)]),
  (35, [(.iload 4, 2), (.iconst (-1), 1), (.if_icmp .eq 20, 3), (.iload_n 3, 1), (.iconst (-1), 1), (.if_icmp .eq 26, 3), (.aload_n 0, 1), (.iload 4, 2), (.iload_n 1, 1), (.iload_n 2, 1), (.iload_n 3, 1), (.invokevirtual 80, 3), (.ifCond .eq 14, 3)]),
  (58, [(.aload_n 0, 1), (.getfield 7, 3), (.iconst 1, 1), (.iaload, 1), (.bipush 12, 2), (.if_icmp .ne 5, 3)]),
  (69, [(.iconst (-1), 1), (.ireturn, 1)]),
  (71, [(.aload_n 0, 1), (.getfield 7, 3), (.iconst 1, 1), (.iaload, 1), (.istore 5, 2), (.aload_n 0, 1), (.iload 5, 2), (.iconst 0, 1), (.iload_n 1, 1), (.invokevirtual 84, 3), (.aload_n 0, 1), (.iload 5, 2), (.iconst 1, 1), (.iload_n 3, 1), (.iconst (-1), 1), (.if_icmp .ne 7, 3), (.iconst 1, 1), (.goto 14, 3)]),
  (100, [(.iload 4, 2), (.iconst (-1), 1), (.if_icmp .ne 7, 3), (.iconst 2, 1), (.goto 4, 3)]),
  (110, [(.iconst 3, 1)]),
  (111, [(.invokevirtual 84, 3), (.aload_n 0, 1), (.iload 5, 2), (.iconst 2, 1), (.iload_n 2, 1), (.invokevirtual 84, 3), (.aload_n 0, 1), (.iload 5, 2), (.iconst 3, 1), (.iload_n 3, 1), (.invokevirtual 84, 3), (.aload_n 0, 1), (.iload 5, 2), (.iconst 4, 1), (.iload 4, 2), (.invokevirtual 84, 3), (.aload_n 0, 1), (.getfield 7, 3), (.iconst 1, 1), (.dup2, 1), (.iaload, 1), (.iconst 1, 1), (.iadd, 1), (.iastore, 1), (.aload_n 0, 1), (.invokevirtual 71, 3), (.iload 5, 2), (.ireturn, 1)])]
def am_b1015 : List (Nat × List (Instr × Nat)) := [
  (0, [(.iconst 0, 1), (.istore_n 3, 1)]),
  (2, [(.iload_n 3, 1), (.iconst 5, 1), (.if_icmp .ge 21, 3), (.aload_n 0, 1), (.iload_n 2, 1), (.iload_n 3, 1), (.aload_n 0, 1), (.iload_n 1, 1), (.iload_n 3, 1), (.invokevirtual 88, 3), (.invokevirtual 84, 3), (.iinc 3 1, 3), (.goto (-20), 3)]),
  (25, [(.return_, 1)])]
def am_b1016 : List (Nat × List (Instr × Nat)) := [
  (0, [(.aload_n 0, 1), (.iload_n 1, 1), (.invokevirtual 92, 3), (.ifCond .ne 5, 3), (.iconst 0, 1), (.ireturn, 1)]),
  (10, [(.iload_n 1, 1), (.iconst 1, 1), (.iadd, 1), (.istore_n 2, 1)]),
  (14, [(.iload_n 2, 1), (.aload_n 0, 1), (.getfield 7, 3), (.iconst 1, 1), (.iaload, 1), (.if_icmp .ge 17, 3), (.aload_n 0, 1), (.iload_n 2, 1), (.iload_n 2, 1), (.iconst 1, 1), (.isub, 1), (.invokevirtual 95, 3), (.iinc 2 1, 3), (.goto (-21), 3)]),
  (38, [(.aload_n 0, 1), (.getfield 7, 3), (.iconst 1, 1), (.dup2, 1), (.iaload, 1), (.iconst 1, 1), (.isub, 1), (.iastore, 1), (.aload_n 0, 1), (.invokevirtual 71, 3), (.iconst 1, 1), (.ireturn, 1)])]
def am_b1017 : List (Nat × List (Instr × Nat)) := [
  (0, [(.aload_n 0, 1), (.iload_n 1, 1), (.invokevirtual 92, 3), (.ifCond .eq 11, 3), (.aload_n 0, 1), (.iload_n 2, 1), (.invokevirtual 92, 3), (.ifCond .ne 5, 3)]),
  (16, [(.iconst 0, 1), (.ireturn, 1)]),
  (18, [(.iconst 0, 1), (.istore_n 3, 1)]),
  (20, [(.iload_n 3, 1), (.iconst 5, 1), (.if_icmp .ge 21, 3), (.aload_n 0, 1), (.getfield 19, 3), (.iload_n 3, 1), (.aload_n 0, 1), (.iload_n 1, 1), (.iload_n 3, 1), (.invokevirtual 88, 3), (.iastore, 1), (.iinc 3 1, 3), (.goto (-20), 3)]),
  (43, [(.iload_n 1, 1), (.istore_n 3, 1)]),
  (45, [(.iload_n 3, 1), (.iload_n 2, 1), (.if_icmp .ge 17, 3), (.aload_n 0, 1), (.iload_n 3, 1), (.iconst 1, 1), (.iadd, 1), (.iload_n 3, 1), (.invokevirtual 95, 3), (.iinc 3 1, 3), (.goto (-16), 3)]),
  (64, [(.iload_n 1, 1), (.istore_n 3, 1)]),
  (66, [(.iload_n 3, 1), (.iload_n 2, 1), (.if_icmp .le 17, 3), (.aload_n 0, 1), (.iload_n 3, 1), (.iconst 1, 1), (.isub, 1), (.iload_n 3, 1), (.invokevirtual 95, 3), (.iinc 3 (-1), 3), (.goto (-16), 3)]),
  (85, [(.iconst 0, 1), (.istore_n 3, 1)]),
  (87, [(.iload_n 3, 1), (.iconst 5, 1), (.if_icmp .ge 21, 3), (.aload_n 0, 1), (.iload_n 2, 1), (.iload_n 3, 1), (.aload_n 0, 1), (.getfield 19, 3), (.iload_n 3, 1), (.iaload, 1), (.invokevirtual 84, 3), (.iinc 3 1, 3), (.goto (-20), 3)]),
  (110, [(.aload_n 0, 1), (.invokevirtual 71, 3), (.iconst 1, 1), (.ireturn, 1)])]
def am_b1018 : List (Nat × List (Instr × Nat)) := [
  (0, [(.aload_n 0, 1), (.getfield 99, 3), (.bipush 20, 2), (.iadd, 1), (.sipush 400, 3), (.if_icmp .le 5, 3), (.iconst (-1), 1), (.ireturn, 1)]),
  (15, [(.iconst 0, 1), (.istore 6, 2)]),
  (18, [(.iload 6, 2), (.bipush 20, 2), (.if_icmp .ge 93, 3), (.iload 6, 2), (.iconst 4, 1), (.if_icmp .ge 7, 3), (.iload_n 1, 1), (.goto 39, 3)]),
  (35, [(.iload 6, 2), (.bipush 8, 2), (.if_icmp .ge 7, 3), (.iload_n 2, 1), (.goto 28, 3)]),
  (46, [(.iload 6, 2), (.bipush 12, 2), (.if_icmp .ge 7, 3), (.iload_n 3, 1), (.goto 17, 3)]),
  (57, [(.iload 6, 2), (.bipush 16, 2), (.if_icmp .ge 8, 3), (.iload 4, 2), (.goto 5, 3)]),
  (69, [(.iload 5, 2)]),
  (71, [(.istore 7, 2), (.aload_n 0, 1), (.getfield 28, 3), (.aload_n 0, 1), (.getfield 99, 3), (.iload 7, 2), (.bipush 24, 2), (.bipush 8, 2), (.iload 6, 2), (.iconst 4, 1), (.irem, 1), (.imul, 1), (.isub, 1), (.ishr, 1), (.sipush 255, 3), (.iand, 1), (.iastore, 1), (.aload_n 0, 1), (.dup, 1), (.getfield 99, 3), (.iconst 1, 1), (.iadd, 1), (.putfield 99, 3), (.iinc 6 1, 3), (.goto (-94), 3)]),
  (115, [(.aload_n 0, 1), (.getfield 99, 3), (.ireturn, 1)])]
def am_b1019 : List (Nat × List (Instr × Nat)) := [
  (0, [(.iload_n 1, 1), (.iconst 0, 1), (.aload_n 0, 1), (.getfield 99, 3), (.invokestatic 64, 3), (.ifCond .ne 5, 3), (.iconst 0, 1), (.ireturn, 1)]),
  (14, [(.aload_n 0, 1), (.iload_n 1, 1), (.putfield 99, 3), (.iconst 1, 1), (.ireturn, 1)])]
def am_b1020 : List (Nat × List (Instr × Nat)) := [
  (0, [(.iload_n 1, 1), (.aload_n 0, 1), (.getfield 99, 3), (.if_icmp .ge 12, 3), (.aload_n 0, 1), (.getfield 28, 3), (.iload_n 1, 1), (.iaload, 1), (.goto 4, 3)]),
  (17, [(.iconst (-1), 1)]),
  (18, [(.ireturn, 1)])]
def am_b1021 : List (Nat × List (Instr × Nat)) := [
  (0, [(.iload_n 0, 1), (.bipush 97, 2), (.bipush 122, 2), (.invokestatic 64, 3), (.ifCond .ne 14, 3), (.iload_n 0, 1), (.bipush 65, 2), (.bipush 90, 2), (.invokestatic 64, 3), (.ifCond .eq 7, 3)]),
  (22, [(.iconst 1, 1), (.goto 4, 3)]),
  (26, [(.iconst 0, 1)]),
  (27, [(.ireturn, 1)])]
def am_b1022 : List (Nat × List (Instr × Nat)) := [
  (0, [(.iload_n 0, 1), (.bipush 48, 2), (.bipush 57, 2), (.invokestatic 64, 3), (.ireturn, 1)])]
def am_b1023 : List (Nat × List (Instr × Nat)) := [
  (0, [(.aload_n 0, 1), (.getfield 102, 3), (.aload_n 0, 1), (.getfield 105, 3), (.isub, 1), (.aload_n 1, 1), (.invokevirtual 108, 3), (.if_icmp .ne 7, 3), (.iconst 1, 1), (.goto 4, 3)]),
  (20, [(.iconst 0, 1)]),
  (21, [(.istore_n 2, 1), (.iconst 0, 1), (.istore_n 3, 1)]),
  (24, [(.iload_n 3, 1), (.aload_n 1, 1), (.invokevirtual 108, 3), (.if_icmp .ge 38, 3), (.iload_n 2, 1), (.ifCond .eq 34, 3), (.aload_n 0, 1), (.getfield 28, 3), (.aload_n 0, 1), (.getfield 105, 3), (.iload_n 3, 1), (.iadd, 1), (.iaload, 1), (.aload_n 1, 1), (.iload_n 3, 1), (.invokevirtual 114, 3), (.if_icmp .ne 7, 3), (.iconst 1, 1), (.goto 4, 3)]),
  (59, [(.iconst 0, 1)]),
  (60, [(.istore_n 2, 1), (.iinc 3 1, 3), (.goto (-40), 3)]),
  (67, [(.iload_n 2, 1), (.ireturn, 1)])]
def am_b1024 : List (Nat × List (Instr × Nat)) := [
  (0, [(.aload_n 0, 1), (.ldc 118, 2), (.invokevirtual 120, 3), (.ifCond .eq 6, 3), (.bipush 41, 2), (.ireturn, 1)]),
  (12, [(.aload_n 0, 1), (.ldc 124, 2), (.invokevirtual 120, 3), (.ifCond .eq 6, 3), (.bipush 42, 2), (.ireturn, 1)]),
  (24, [(.aload_n 0, 1), (.ldc 126, 2), (.invokevirtual 120, 3), (.ifCond .eq 6, 3), (.bipush 43, 2), (.ireturn, 1)]),
  (36, [(.aload_n 0, 1), (.ldc 128, 2), (.invokevirtual 120, 3), (.ifCond .eq 6, 3), (.bipush 44, 2), (.ireturn, 1)]),
  (48, [(.aload_n 0, 1), (.ldc 130, 2), (.invokevirtual 120, 3), (.ifCond .eq 6, 3), (.bipush 45, 2), (.ireturn, 1)]),
  (60, [(.aload_n 0, 1), (.ldc 132, 2), (.invokevirtual 120, 3), (.ifCond .eq 8, 3), (.bipush 46, 2), (.goto 4, 3)]),
  (74, [(.iconst 1, 1)]),
  (75, [(.ireturn, 1)])]
def am_b1025 : List (Nat × List (Instr × Nat)) := [
  (0, [(.aload_n 0, 1), (.ldc 134, 2), (.invokevirtual 120, 3), (.ifCond .eq 5, 3), (.iconst 3, 1), (.ireturn, 1)]),
  (11, [(.aload_n 0, 1), (.ldc 136, 2), (.invokevirtual 120, 3), (.ifCond .eq 5, 3), (.iconst 4, 1), (.ireturn, 1)]),
  (22, [(.aload_n 0, 1), (.ldc 138, 2), (.invokevirtual 120, 3), (.ifCond .eq 5, 3), (.iconst 5, 1), (.ireturn, 1)]),
  (33, [(.aload_n 0, 1), (.ldc 140, 2), (.invokevirtual 120, 3), (.ifCond .eq 6, 3), (.bipush 6, 2), (.ireturn, 1)]),
  (45, [(.aload_n 0, 1), (.ldc 142, 2), (.invokevirtual 120, 3), (.ifCond .eq 6, 3), (.bipush 20, 2), (.ireturn, 1)]),
  (57, [(.aload_n 0, 1), (.ldc 144, 2), (.invokevirtual 120, 3), (.ifCond .eq 8, 3), (.bipush 21, 2), (.goto 7, 3)]),
  (71, [(.aload_n 0, 1), (.invokevirtual 146, 3)]),
  (75, [(.ireturn, 1)])]
def am_b1026 : List (Nat × List (Instr × Nat)) := [
  (0, [(.aload_n 0, 1), (.aload_n 0, 1), (.getfield 102, 3), (.invokevirtual 149, 3), (.bipush 32, 2), (.if_icmp .eq 16, 3), (.aload_n 0, 1), (.aload_n 0, 1), (.getfield 102, 3), (.invokevirtual 149, 3), (.bipush 10, 2), (.if_icmp .ne 16, 3)]),
  (26, [(.aload_n 0, 1), (.dup, 1), (.getfield 102, 3), (.iconst 1, 1), (.iadd, 1), (.putfield 102, 3), (.goto (-36), 3)]),
  (39, [(.aload_n 0, 1), (.aload_n 0, 1), (.getfield 102, 3), (.putfield 105, 3), (.aload_n 0, 1), (.aload_n 0, 1), (.getfield 102, 3), (.invokevirtual 149, 3), (.istore_n 1, 1), (.iload_n 1, 1), (.iconst (-1), 1), (.if_icmp .ne 11, 3), (.aload_n 0, 1), (.iconst 0, 1), (.putfield 153, 3), (.goto 240, 3)]),
  (69, [(.iload_n 1, 1), (.invokestatic 156, 3), (.ifCond .eq 41, 3)]),
  (76, [(.aload_n 0, 1), (.aload_n 0, 1), (.getfield 102, 3), (.invokevirtual 149, 3), (.invokestatic 156, 3), (.ifCond .eq 16, 3), (.aload_n 0, 1), (.dup, 1), (.getfield 102, 3), (.iconst 1, 1), (.iadd, 1), (.putfield 102, 3), (.goto (-24), 3)]),
  (103, [(.aload_n 0, 1), (.aload_n 0, 1), (.invokevirtual 159, 3), (.putfield 153, 3), (.goto 195, 3)]),
  (114, [(.iload_n 1, 1), (.invokestatic 162, 3), (.ifCond .eq 96, 3), (.aload_n 0, 1), (.iconst 0, 1), (.putfield 165, 3)]),
  (126, [(.aload_n 0, 1), (.aload_n 0, 1), (.getfield 102, 3), (.invokevirtual 149, 3), (.invokestatic 162, 3), (.ifCond .eq 52, 3), (.aload_n 0, 1), (.getfield 102, 3), (.aload_n 0, 1), (.getfield 105, 3), (.iconst 4, 1), (.iadd, 1), (.if_icmp .ge 26, 3), (.aload_n 0, 1), (.bipush 10, 2), (.aload_n 0, 1), (.getfield 165, 3), (.imul, 1), (.aload_n 0, 1), (.aload_n 0, 1), (.getfield 102, 3), (.invokevirtual 149, 3), (.iadd, 1), (.bipush 48, 2), (.isub, 1), (.putfield 165, 3)]),
  (176, [(.aload_n 0, 1), (.dup, 1), (.getfield 102, 3), (.iconst 1, 1), (.iadd, 1), (.putfield 102, 3), (.goto (-60), 3)]),
  (189, [(.aload_n 0, 1), (.aload_n 0, 1), (.getfield 102, 3), (.aload_n 0, 1), (.getfield 105, 3), (.isub, 1), (.iconst 5, 1), (.if_icmp .ge 7, 3), (.iconst 2, 1), (.goto 4, 3)]),
  (207, [(.iconst 1, 1)]),
  (208, [(.putfield 153, 3), (.goto 95, 3)]),
  (214, [(.aload_n 0, 1), (.dup, 1), (.getfield 102, 3), (.iconst 1, 1), (.iadd, 1), (.putfield 102, 3), (.iload_n 1, 1), (.bipush 59, 2), (.if_icmp .eq 57, 3), (.iload_n 1, 1), (.bipush 43, 2), (.if_icmp .eq 51, 3), (.iload_n 1, 1), (.bipush 45, 2), (.if_icmp .eq 45, 3), (.iload_n 1, 1), (.bipush 42, 2), (.if_icmp .eq 39, 3), (.iload_n 1, 1), (.bipush 47, 2), (.if_icmp .eq 33, 3), (.iload_n 1, 1), (.bipush 40, 2), (.if_icmp .eq 27, 3), (.iload_n 1, 1), (.bipush 41, 2), (.if_icmp .eq 21, 3), (.iload_n 1, 1), (.bipush 60, 2), (.if_icmp .eq 15, 3), (.iload_n 1, 1), (.bipush 61, 2), (.if_icmp .eq 9, 3), (.iload_n 1, 1), (.bipush 62, 2), (.if_icmp .ne 7, 3)]),
  (284, [(.iconst 1, 1), (.goto 4, 3)]),
  (288, [(.iconst 0, 1)]),
  (289, [(.istore_n 2, 1), (.aload_n 0, 1), (.iload_n 2, 1), (.ifCond .eq 10, 3), (.bipush 100, 2), (.iload_n 1, 1), (.iadd, 1), (.goto 4, 3)]),
  (302, [(.iconst 1, 1)]),
  (303, [(.putfield 153, 3)]),
  (306, [(.return_, 1)])]
def am_b1027 : List (Nat × List (Instr × Nat)) := [
  (0, [(.aload_n 0, 1), (.iload_n 1, 1), (.putfield 168, 3), (.aload_n 0, 1), (.aload_n 0, 1), (.getfield 105, 3), (.putfield 171, 3), (.iconst 0, 1), (.ireturn, 1)])]
def am_b1028 : List (Nat × List (Instr × Nat)) := [
  (0, [(.aload_n 0, 1), (.getfield 153, 3), (.iload_n 1, 1), (.if_icmp .eq 9, 3), (.aload_n 0, 1), (.iconst 1, 1), (.invokevirtual 174, 3), (.ireturn, 1)]),
  (14, [(.aload_n 0, 1), (.invokevirtual 177, 3), (.iconst 1, 1), (.ireturn, 1)])]
def am_b1029 : List (Nat × List (Instr × Nat)) := [
  (0, [(.aload_n 0, 1), (.getfield 25, 3), (.iconst 2, 1), (.aload_n 0, 1), (.getfield 180, 3), (.imul, 1), (.iload_n 1, 1), (.iastore, 1), (.aload_n 0, 1), (.getfield 25, 3), (.iconst 2, 1), (.aload_n 0, 1), (.getfield 180, 3), (.imul, 1), (.iconst 1, 1), (.iadd, 1), (.iload_n 2, 1), (.iastore, 1), (.aload_n 0, 1), (.dup, 1), (.getfield 180, 3), (.iconst 1, 1), (.iadd, 1), (.putfield 180, 3), (.return_, 1)])]
def am_b1030 : List (Nat × List (Instr × Nat)) := [
  (0, [(.aload_n 0, 1), (.getfield 183, 3), (.bipush 8, 2), (.if_icmp .ne 9, 3), (.aload_n 0, 1), (.iconst 3, 1), (.invokevirtual 174, 3), (.ireturn, 1)]),
  (15, [(.aload_n 0, 1), (.dup, 1), (.getfield 183, 3), (.iconst 1, 1), (.iadd, 1), (.putfield 183, 3), (.aload_n 0, 1), (.invokevirtual 177, 3), (.iconst 1, 1), (.ireturn, 1)])]
def am_b1031 : List (Nat × List (Instr × Nat)) := [
  (0, [(.aload_n 0, 1), (.invokevirtual 186, 3), (.ifCond .ne 5, 3), (.iconst 0, 1), (.ireturn, 1)]),
  (9, [(.aload_n 0, 1), (.getfield 153, 3), (.sipush 143, 3), (.if_icmp .eq 13, 3), (.aload_n 0, 1), (.getfield 153, 3), (.sipush 145, 3), (.if_icmp .ne 43, 3)]),
  (29, [(.aload_n 0, 1), (.getfield 153, 3), (.sipush 143, 3), (.if_icmp .ne 8, 3), (.bipush 13, 2), (.goto 5, 3)]),
  (44, [(.bipush 14, 2)]),
  (46, [(.istore_n 1, 1), (.aload_n 0, 1), (.invokevirtual 177, 3), (.aload_n 0, 1), (.invokevirtual 186, 3), (.ifCond .ne 5, 3), (.iconst 0, 1), (.ireturn, 1)]),
  (60, [(.aload_n 0, 1), (.iload_n 1, 1), (.iconst 0, 1), (.invokevirtual 190, 3), (.goto (-57), 3)]),
  (69, [(.iconst 1, 1), (.ireturn, 1)])]
def am_b1032 : List (Nat × List (Instr × Nat)) := [
  (0, [(.aload_n 0, 1), (.invokevirtual 193, 3), (.ifCond .ne 5, 3), (.iconst 0, 1), (.ireturn, 1)]),
  (9, [(.aload_n 0, 1), (.getfield 153, 3), (.sipush 142, 3), (.if_icmp .eq 13, 3), (.aload_n 0, 1), (.getfield 153, 3), (.sipush 147, 3), (.if_icmp .ne 89, 3)]),
  (29, [(.aload_n 0, 1), (.getfield 153, 3), (.sipush 147, 3), (.if_icmp .ne 7, 3), (.iconst 1, 1), (.goto 4, 3)]),
  (43, [(.iconst 0, 1)]),
  (44, [(.istore_n 1, 1), (.aload_n 0, 1), (.invokevirtual 177, 3), (.iload_n 1, 1), (.ifCond .eq 46, 3), (.aload_n 0, 1), (.getfield 165, 3), (.istore_n 2, 1), (.aload_n 0, 1), (.getfield 153, 3), (.iconst 2, 1), (.if_icmp .eq 9, 3), (.aload_n 0, 1), (.iconst 1, 1), (.invokevirtual 174, 3), (.ireturn, 1)]),
  (72, [(.iload_n 2, 1), (.ifCond .ne 9, 3), (.aload_n 0, 1), (.iconst 2, 1), (.invokevirtual 174, 3), (.ireturn, 1)]),
  (82, [(.aload_n 0, 1), (.invokevirtual 177, 3), (.aload_n 0, 1), (.bipush 16, 2), (.iload_n 2, 1), (.invokevirtual 190, 3), (.goto 19, 3)]),
  (96, [(.aload_n 0, 1), (.invokevirtual 193, 3), (.ifCond .ne 5, 3), (.iconst 0, 1), (.ireturn, 1)]),
  (105, [(.aload_n 0, 1), (.bipush 15, 2), (.iconst 0, 1), (.invokevirtual 190, 3)]),
  (112, [(.goto (-103), 3)]),
  (115, [(.iconst 1, 1), (.ireturn, 1)])]
def am_b1033 : List (Nat × List (Instr × Nat)) := [
  (0, [(.aload_n 0, 1), (.getfield 153, 3), (.bipush 41, 2), (.bipush 46, 2), (.invokestatic 64, 3), (.istore_n 1, 1), (.aload_n 0, 1), (.getfield 153, 3), (.iconst 2, 1), (.if_icmp .eq 13, 3), (.iload_n 1, 1), (.ifCond .ne 9, 3), (.aload_n 0, 1), (.iconst 1, 1), (.invokevirtual 174, 3), (.ireturn, 1)]),
  (30, [(.aload_n 0, 1), (.iload_n 1, 1), (.ifCond .eq 13, 3), (.aload_n 0, 1), (.getfield 153, 3), (.bipush 40, 2), (.isub, 1), (.goto 4, 3)]),
  (45, [(.iconst 0, 1)]),
  (46, [(.aload_n 0, 1), (.getfield 165, 3), (.invokevirtual 190, 3), (.aload_n 0, 1), (.invokevirtual 177, 3), (.iconst 1, 1), (.ireturn, 1)])]
def am_b1034 : List (Nat × List (Instr × Nat)) := [
  (0, [(.aload_n 0, 1), (.invokevirtual 196, 3), (.ifCond .ne 5, 3), (.iconst 0, 1), (.ireturn, 1)]),
  (9, [(.aload_n 0, 1), (.getfield 153, 3), (.iconst 4, 1), (.if_icmp .ne 26, 3), (.aload_n 0, 1), (.invokevirtual 177, 3), (.aload_n 0, 1), (.invokevirtual 196, 3), (.ifCond .ne 5, 3), (.iconst 0, 1), (.ireturn, 1)]),
  (30, [(.aload_n 0, 1), (.bipush 22, 2), (.iconst 0, 1), (.invokevirtual 190, 3), (.goto (-28), 3)]),
  (40, [(.iconst 1, 1), (.ireturn, 1)])]
def am_b1035 : List (Nat × List (Instr × Nat)) := [
  (0, [(.aload_n 0, 1), (.invokevirtual 199, 3), (.ifCond .ne 5, 3), (.iconst 0, 1), (.ireturn, 1)]),
  (9, [(.aload_n 0, 1), (.getfield 153, 3), (.iconst 5, 1), (.if_icmp .ne 26, 3), (.aload_n 0, 1), (.invokevirtual 177, 3), (.aload_n 0, 1), (.invokevirtual 199, 3), (.ifCond .ne 5, 3), (.iconst 0, 1), (.ireturn, 1)]),
  (30, [(.aload_n 0, 1), (.bipush 21, 2), (.iconst 0, 1), (.invokevirtual 190, 3), (.goto (-28), 3)]),
  (40, [(.iconst 1, 1), (.ireturn, 1)])]
def am_b1036 : List (Nat × List (Instr × Nat)) := [
  (0, [(.aload_n 0, 1), (.getfield 153, 3), (.bipush 6, 2), (.if_icmp .ne 38, 3), (.aload_n 0, 1), (.invokevirtual 202, 3), (.ifCond .eq 10, 3), (.aload_n 0, 1), (.invokevirtual 199, 3), (.ifCond .ne 5, 3)]),
  (23, [(.iconst 0, 1), (.ireturn, 1)]),
  (25, [(.aload_n 0, 1), (.dup, 1), (.getfield 183, 3), (.iconst 1, 1), (.isub, 1), (.putfield 183, 3), (.aload_n 0, 1), (.bipush 20, 2), (.iconst 0, 1), (.invokevirtual 190, 3), (.iconst 1, 1), (.ireturn, 1)]),
  (44, [(.aload_n 0, 1), (.getfield 153, 3), (.sipush 140, 3), (.if_icmp .ne 41, 3), (.aload_n 0, 1), (.invokevirtual 202, 3), (.ifCond .eq 20, 3), (.aload_n 0, 1), (.invokevirtual 205, 3), (.ifCond .eq 13, 3), (.aload_n 0, 1), (.sipush 141, 3), (.invokevirtual 208, 3), (.ifCond .ne 5, 3)]),
  (78, [(.iconst 0, 1), (.ireturn, 1)]),
  (80, [(.aload_n 0, 1), (.dup, 1), (.getfield 183, 3), (.iconst 1, 1), (.isub, 1), (.putfield 183, 3), (.iconst 1, 1), (.ireturn, 1)]),
  (92, [(.aload_n 0, 1), (.invokevirtual 211, 3), (.ifCond .ne 5, 3), (.iconst 0, 1), (.ireturn, 1)]),
  (101, [(.aload_n 0, 1), (.getfield 153, 3), (.sipush 160, 3), (.if_icmp .ne 8, 3), (.bipush 17, 2), (.goto 34, 3)]),
  (116, [(.aload_n 0, 1), (.getfield 153, 3), (.sipush 161, 3), (.if_icmp .ne 8, 3), (.bipush 18, 2), (.goto 19, 3)]),
  (131, [(.aload_n 0, 1), (.getfield 153, 3), (.sipush 162, 3), (.if_icmp .ne 8, 3), (.bipush 19, 2), (.goto 4, 3)]),
  (146, [(.iconst (-1), 1)]),
  (147, [(.istore_n 1, 1), (.iload_n 1, 1), (.iconst (-1), 1), (.if_icmp .ne 9, 3), (.aload_n 0, 1), (.iconst 1, 1), (.invokevirtual 174, 3), (.ireturn, 1)]),
  (159, [(.aload_n 0, 1), (.invokevirtual 177, 3), (.aload_n 0, 1), (.invokevirtual 211, 3), (.ifCond .ne 5, 3), (.iconst 0, 1), (.ireturn, 1)]),
  (172, [(.aload_n 0, 1), (.iload_n 1, 1), (.iconst 0, 1), (.invokevirtual 190, 3), (.iconst 1, 1), (.ireturn, 1)])]
def am_b1037 : List (Nat × List (Instr × Nat)) := [
  (0, [(.aload_n 0, 1), (.getfield 153, 3), (.bipush 20, 2), (.bipush 21, 2), (.invokestatic 64, 3), (.ifCond .ne 9, 3), (.aload_n 0, 1), (.iconst 1, 1), (.invokevirtual 174, 3), (.ireturn, 1)]),
  (20, [(.aload_n 0, 1), (.getfield 214, 3), (.bipush 16, 2), (.if_icmp .ne 9, 3), (.aload_n 0, 1), (.iconst 3, 1), (.invokevirtual 174, 3), (.ireturn, 1)]),
  (35, [(.aload_n 0, 1), (.getfield 22, 3), (.iconst 3, 1), (.aload_n 0, 1), (.getfield 214, 3), (.imul, 1), (.aload_n 0, 1), (.getfield 153, 3), (.bipush 20, 2), (.isub, 1), (.iastore, 1), (.aload_n 0, 1), (.iconst 0, 1), (.putfield 183, 3), (.aload_n 0, 1), (.invokevirtual 177, 3), (.aload_n 0, 1), (.getfield 22, 3), (.iconst 3, 1), (.aload_n 0, 1), (.getfield 214, 3), (.imul, 1), (.iconst 1, 1), (.iadd, 1), (.aload_n 0, 1), (.getfield 180, 3), (.iastore, 1), (.aload_n 0, 1), (.getfield 153, 3), (.iconst 3, 1), (.if_icmp .ne 16, 3), (.aload_n 0, 1), (.invokevirtual 177, 3), (.aload_n 0, 1), (.invokevirtual 205, 3), (.ifCond .ne 5, 3), (.iconst 0, 1), (.ireturn, 1)]),
  (100, [(.aload_n 0, 1), (.getfield 22, 3), (.iconst 3, 1), (.aload_n 0, 1), (.getfield 214, 3), (.imul, 1), (.iconst 2, 1), (.iadd, 1), (.aload_n 0, 1), (.getfield 180, 3), (.iastore, 1), (.aload_n 0, 1), (.sipush 159, 3), (.invokevirtual 208, 3), (.ireturn, 1)])]
def am_b1038 : List (Nat × List (Instr × Nat)) := [
  (0, [(.aload_n 0, 1), (.iconst 0, 1), (.putfield 168, 3), (.aload_n 0, 1), (.iconst 0, 1), (.putfield 102, 3), (.aload_n 0, 1), (.iconst 0, 1), (.putfield 214, 3), (.aload_n 0, 1), (.iconst 0, 1), (.putfield 180, 3), (.aload_n 0, 1), (.invokevirtual 177, 3), (.iconst 1, 1), (.istore_n 1, 1)]),
  (26, [(.iload_n 1, 1), (.ifCond .eq 36, 3), (.aload_n 0, 1), (.getfield 153, 3), (.ifCond .eq 29, 3), (.aload_n 0, 1), (.invokevirtual 217, 3), (.istore_n 1, 1), (.aload_n 0, 1), (.dup, 1), (.getfield 214, 3), (.iload_n 1, 1), (.ifCond .eq 7, 3), (.iconst 1, 1), (.goto 4, 3)]),
  (55, [(.iconst 0, 1)]),
  (56, [(.iadd, 1), (.putfield 214, 3), (.goto (-34), 3)]),
  (63, [(.aload_n 0, 1), (.iconst 0, 1), (.putfield 99, 3), (.aload_n 0, 1), (.aload_n 0, 1), (.getfield 168, 3), (.putfield 220, 3), (.aload_n 0, 1), (.iload_n 1, 1), (.ifCond .eq 7, 3), (.iconst (-1), 1), (.goto 7, 3)]),
  (85, [(.aload_n 0, 1), (.getfield 171, 3)]),
  (89, [(.putfield 37, 3), (.iload_n 1, 1), (.ifCond .ne 5, 3), (.iconst (-1), 1), (.ireturn, 1)]),
  (98, [(.aload_n 0, 1), (.getfield 7, 3), (.sipush 435, 3), (.aload_n 0, 1), (.getfield 214, 3), (.iastore, 1), (.iconst 0, 1), (.istore_n 2, 1)]),
  (112, [(.iload_n 2, 1), (.aload_n 0, 1), (.getfield 214, 3), (.if_icmp .ge 67, 3), (.aload_n 0, 1), (.getfield 7, 3), (.sipush 440, 3), (.iload_n 2, 1), (.iadd, 1), (.aload_n 0, 1), (.getfield 22, 3), (.iconst 3, 1), (.iload_n 2, 1), (.imul, 1), (.iaload, 1), (.iastore, 1), (.aload_n 0, 1), (.getfield 7, 3), (.sipush 460, 3), (.iload_n 2, 1), (.iadd, 1), (.aload_n 0, 1), (.getfield 22, 3), (.iconst 3, 1), (.iload_n 2, 1), (.imul, 1), (.iconst 1, 1), (.iadd, 1), (.iaload, 1), (.iastore, 1), (.aload_n 0, 1), (.getfield 7, 3), (.sipush 480, 3), (.iload_n 2, 1), (.iadd, 1), (.aload_n 0, 1), (.getfield 22, 3), (.iconst 3, 1), (.iload_n 2, 1), (.imul, 1), (.iconst 2, 1), (.iadd, 1), (.iaload, 1), (.iastore, 1), (.iinc 2 1, 3), (.goto (-69), 3)]),
  (184, [(.iconst 0, 1), (.istore_n 2, 1)]),
  (186, [(.iload_n 2, 1), (.iconst 2, 1), (.aload_n 0, 1), (.getfield 180, 3), (.imul, 1), (.if_icmp .ge 25, 3), (.aload_n 0, 1), (.getfield 7, 3), (.sipush 500, 3), (.iload_n 2, 1), (.iadd, 1), (.aload_n 0, 1), (.getfield 25, 3), (.iload_n 2, 1), (.iaload, 1), (.iastore, 1), (.iinc 2 1, 3), (.goto (-29), 3)]),
  (218, [(.aload_n 0, 1), (.getfield 214, 3), (.ireturn, 1)])]
def am_b1039 : List (Nat × List (Instr × Nat)) := [
  (0, [(.iload_n 1, 1), (.ifCond .ne 10, 3), (.aload_n 0, 1), (.getfield 220, 3), (.goto 16, 3)]),
  (11, [(.iload_n 1, 1), (.iconst 1, 1), (.if_icmp .ne 10, 3), (.aload_n 0, 1), (.getfield 37, 3), (.goto 4, 3)]),
  (23, [(.iconst (-1), 1)]),
  (24, [(.ireturn, 1)])]
def am_b1040 : List (Nat × List (Instr × Nat)) := [
  (0, [(.iload_n 0, 1), (.tableswitch 100 13 21 #[51, 55, 59, 100, 63, 74, 85, 100, 96], 51)]),
  (52, [(.iload_n 1, 1), (.iload_n 2, 1), (.iadd, 1), (.ireturn, 1)]),
  (56, [(.iload_n 1, 1), (.iload_n 2, 1), (.isub, 1), (.ireturn, 1)]),
  (60, [(.iload_n 1, 1), (.iload_n 2, 1), (.imul, 1), (.ireturn, 1)]),
  (64, [(.iload_n 1, 1), (.iload_n 2, 1), (.if_icmp .ge 7, 3), (.iconst 1, 1), (.goto 4, 3)]),
  (73, [(.iconst 0, 1)]),
  (74, [(.ireturn, 1)]),
  (75, [(.iload_n 1, 1), (.iload_n 2, 1), (.if_icmp .ne 7, 3), (.iconst 1, 1), (.goto 4, 3)]),
  (84, [(.iconst 0, 1)]),
  (85, [(.ireturn, 1)]),
  (86, [(.iload_n 1, 1), (.iload_n 2, 1), (.if_icmp .le 7, 3), (.iconst 1, 1), (.goto 4, 3)]),
  (95, [(.iconst 0, 1)]),
  (96, [(.ireturn, 1)]),
  (97, [(.iload_n 1, 1), (.iload_n 2, 1), (.iand, 1), (.ireturn, 1)]),
  (101, [(.iload_n 1, 1), (.iload_n 2, 1), (.ior, 1), (.ireturn, 1)])]
def am_b1041 : List (Nat × List (Instr × Nat)) := [
  (0, [(.iconst 0, 1), (.istore_n 3, 1), (.iload_n 1, 1), (.istore 4, 2)]),
  (5, [(.iload 4, 2), (.iload_n 2, 1), (.if_icmp .ge 158, 3), (.aload_n 0, 1), (.getfield 7, 3), (.sipush 500, 3), (.iconst 2, 1), (.iload 4, 2), (.imul, 1), (.iadd, 1), (.iaload, 1), (.istore 5, 2), (.aload_n 0, 1), (.getfield 7, 3), (.sipush 500, 3), (.iconst 2, 1), (.iload 4, 2), (.imul, 1), (.iadd, 1), (.iconst 1, 1), (.iadd, 1), (.iaload, 1), (.istore 6, 2), (.iload 5, 2), (.bipush 13, 2), (.if_icmp .ge 32, 3), (.aload_n 0, 1), (.getfield 31, 3), (.iload_n 3, 1), (.iload 5, 2), (.ifCond .ne 8, 3), (.iload 6, 2), (.goto 10, 3)]),
  (65, [(.aload_n 0, 1), (.getfield 34, 3), (.iload 5, 2), (.iaload, 1)]),
  (72, [(.iastore, 1), (.iinc 3 1, 3), (.goto 84, 3)]),
  (79, [(.iload 5, 2), (.bipush 16, 2), (.if_icmp .ne 19, 3), (.aload_n 0, 1), (.getfield 31, 3), (.iload_n 3, 1), (.iconst 1, 1), (.isub, 1), (.dup2, 1), (.iaload, 1), (.iload 6, 2), (.idiv, 1), (.iastore, 1), (.goto 61, 3)]),
  (102, [(.iload 5, 2), (.bipush 20, 2), (.if_icmp .ne 24, 3), (.aload_n 0, 1), (.getfield 31, 3), (.iload_n 3, 1), (.iconst 1, 1), (.isub, 1), (.iconst 1, 1), (.aload_n 0, 1), (.getfield 31, 3), (.iload_n 3, 1), (.iconst 1, 1), (.isub, 1), (.iaload, 1), (.isub, 1), (.iastore, 1), (.goto 33, 3)]),
  (130, [(.iinc 3 (-1), 3), (.aload_n 0, 1), (.getfield 31, 3), (.iload_n 3, 1), (.iconst 1, 1), (.isub, 1), (.iload 5, 2), (.aload_n 0, 1), (.getfield 31, 3), (.iload_n 3, 1), (.iconst 1, 1), (.isub, 1), (.iaload, 1), (.aload_n 0, 1), (.getfield 31, 3), (.iload_n 3, 1), (.iaload, 1), (.invokestatic 223, 3), (.iastore, 1)]),
  (160, [(.iinc 4 1, 3), (.goto (-158), 3)]),
  (166, [(.aload_n 0, 1), (.getfield 31, 3), (.iconst 0, 1), (.iaload, 1), (.ireturn, 1)])]
def am_b1042 : List (Nat × List (Instr × Nat)) := [
  (0, [(.iconst 0, 1), (.istore_n 2, 1), (.iconst 0, 1), (.istore_n 3, 1)]),
  (4, [(.iload_n 3, 1), (.aload_n 0, 1), (.getfield 7, 3), (.iconst 0, 1), (.iaload, 1), (.if_icmp .ge 34, 3), (.iload_n 2, 1), (.iload_n 1, 1), (.iload_n 3, 1), (.ishr, 1), (.iconst 1, 1), (.iand, 1), (.iconst 1, 1), (.if_icmp .ne 15, 3), (.aload_n 0, 1), (.getfield 7, 3), (.bipush 10, 2), (.iload_n 3, 1), (.iadd, 1), (.iaload, 1), (.goto 4, 3)]),
  (36, [(.iconst 0, 1)]),
  (37, [(.ior, 1), (.istore_n 2, 1), (.iinc 3 1, 3), (.goto (-38), 3)]),
  (45, [(.iload_n 2, 1), (.ireturn, 1)])]
def am_b1043 : List (Nat × List (Instr × Nat)) := [
  (0, [(.aload_n 0, 1), (.iload_n 2, 1), (.invokevirtual 227, 3), (.istore_n 3, 1), (.aload_n 0, 1), (.getfield 34, 3), (.iconst 1, 1), (.aload_n 0, 1), (.getfield 7, 3), (.bipush 10, 2), (.iload_n 1, 1), (.iadd, 1), (.iaload, 1), (.iload_n 3, 1), (.iand, 1), (.invokestatic 230, 3), (.iastore, 1), (.aload_n 0, 1), (.getfield 34, 3), (.iconst 2, 1), (.aload_n 0, 1), (.getfield 7, 3), (.bipush 10, 2), (.iload_n 1, 1), (.iadd, 1), (.iaload, 1), (.iload_n 3, 1), (.iconst (-1), 1), (.ixor, 1), (.iand, 1), (.invokestatic 230, 3), (.iastore, 1), (.aload_n 0, 1), (.getfield 34, 3), (.iconst 3, 1), (.iload_n 3, 1), (.aload_n 0, 1), (.getfield 7, 3), (.bipush 10, 2), (.iload_n 1, 1), (.iadd, 1), (.iaload, 1), (.iconst (-1), 1), (.ixor, 1), (.iand, 1), (.invokestatic 230, 3), (.iastore, 1), (.aload_n 0, 1), (.getfield 34, 3), (.iconst 4, 1), (.iload_n 2, 1), (.invokestatic 230, 3), (.iastore, 1), (.aload_n 0, 1), (.getfield 34, 3), (.iconst 5, 1), (.iconst 0, 1), (.iastore, 1), (.iconst 0, 1), (.istore 4, 2)]),
  (90, [(.iload 4, 2), (.aload_n 0, 1), (.getfield 7, 3), (.iconst 0, 1), (.iaload, 1), (.if_icmp .ge 55, 3), (.aload_n 0, 1), (.getfield 34, 3), (.iconst 5, 1), (.dup2, 1), (.iaload, 1), (.iload 4, 2), (.iload_n 1, 1), (.if_icmp .eq 33, 3), (.iload_n 2, 1), (.iload 4, 2), (.ishr, 1), (.iconst 1, 1), (.iand, 1), (.ifCond .ne 24, 3), (.aload_n 0, 1), (.getfield 7, 3), (.bipush 10, 2), (.iload 4, 2), (.iadd, 1), (.iaload, 1), (.iload_n 3, 1), (.iconst (-1), 1), (.ixor, 1), (.iand, 1), (.ifCond .ne 7, 3), (.iconst 1, 1), (.goto 4, 3)]),
  (144, [(.iconst 0, 1)]),
  (145, [(.iadd, 1), (.iastore, 1), (.iinc 4 1, 3), (.goto (-60), 3)]),
  (153, [(.aload_n 0, 1), (.getfield 34, 3), (.bipush 6, 2), (.iload_n 1, 1), (.iastore, 1), (.iconst 0, 1), (.istore 4, 2)]),
  (164, [(.iload 4, 2), (.aload_n 0, 1), (.getfield 7, 3), (.sipush 435, 3), (.iaload, 1), (.if_icmp .ge 84, 3), (.aload_n 0, 1), (.getfield 7, 3), (.sipush 480, 3), (.iload 4, 2), (.iadd, 1), (.iaload, 1), (.aload_n 0, 1), (.getfield 7, 3), (.sipush 460, 3), (.iload 4, 2), (.iadd, 1), (.iaload, 1), (.if_icmp .eq 33, 3), (.aload_n 0, 1), (.aload_n 0, 1), (.getfield 7, 3), (.sipush 460, 3), (.iload 4, 2), (.iadd, 1), (.iaload, 1), (.aload_n 0, 1), (.getfield 7, 3), (.sipush 480, 3), (.iload 4, 2), (.iadd, 1), (.iaload, 1), (.invokevirtual 233, 3), (.iconst 1, 1), (.if_icmp .ne 23, 3)]),
  (232, [(.aload_n 0, 1), (.getfield 7, 3), (.sipush 440, 3), (.iload 4, 2), (.iadd, 1), (.iaload, 1), (.ifCond .ne 7, 3), (.iconst 1, 1), (.goto 4, 3)]),
  (250, [(.iconst 0, 1)]),
  (251, [(.ireturn, 1)]),
  (252, [(.iinc 4 1, 3), (.goto (-91), 3)]),
  (258, [(.iconst 0, 1), (.ireturn, 1)])]
def am_b1044 : List (Nat × List (Instr × Nat)) := [
  (0, [(.iconst 0, 1), (.istore_n 2, 1), (.iconst 0, 1), (.istore_n 3, 1)]),
  (4, [(.iload_n 3, 1), (.aload_n 0, 1), (.iload_n 1, 1), (.iconst 1, 1), (.invokevirtual 88, 3), (.if_icmp .ge 22, 3), (.iload_n 2, 1), (.iconst 1, 1), (.aload_n 0, 1), (.iload_n 1, 1), (.iconst 2, 1), (.iload_n 3, 1), (.iadd, 1), (.invokevirtual 88, 3), (.ishl, 1), (.ior, 1), (.istore_n 2, 1), (.iinc 3 1, 3), (.goto (-26), 3)]),
  (33, [(.iload_n 2, 1), (.ireturn, 1)])]
def am_b1045 : List (Nat × List (Instr × Nat)) := [
  (0, [(.aload_n 0, 1), (.aload_n 0, 1), (.iload_n 1, 1), (.iconst 0, 1), (.invokevirtual 88, 3), (.aload_n 0, 1), (.iload_n 1, 1), (.invokevirtual 236, 3), (.invokevirtual 239, 3), (.ireturn, 1)])]
def am_b1046 : List (Nat × List (Instr × Nat)) := [
  (0, [(.iconst 0, 1), (.istore_n 3, 1), (.iconst 0, 1), (.istore 4, 2)]),
  (5, [(.iload 4, 2), (.iload_n 2, 1), (.if_icmp .ge 22, 3), (.iload_n 3, 1), (.aload_n 0, 1), (.iload 4, 2), (.invokevirtual 236, 3), (.iload_n 1, 1), (.ishr, 1), (.iconst 1, 1), (.iand, 1), (.iadd, 1), (.istore_n 3, 1), (.iinc 4 1, 3), (.goto (-22), 3)]),
  (30, [(.iload_n 3, 1), (.ireturn, 1)])]
def am_b1047 : List (Nat × List (Instr × Nat)) := [
  (0, [(.aload_n 0, 1), (.iload_n 1, 1), (.invokevirtual 76, 3), (.ifCond .eq 24, 3), (.iload_n 2, 1), (.ifCond .eq 20, 3), (.aload_n 0, 1), (.iload_n 2, 1), (.invokevirtual 243, 3), (.ifCond .eq 12, 3), (.iload_n 2, 1), (.iload_n 1, 1), (.ishr, 1), (.iconst 1, 1), (.iand, 1), (.iconst 1, 1), (.if_icmp .ne 5, 3)]),
  (29, [(.iconst (-1), 1), (.ireturn, 1)]),
  (31, [(.aload_n 0, 1), (.iload_n 1, 1), (.iload_n 2, 1), (.invokevirtual 239, 3), (.ifCond .eq 7, 3), (.iconst 1, 1), (.goto 4, 3)]),
  (44, [(.iconst 0, 1)]),
  (45, [(.ireturn, 1)])]
def am_b1048 : List (Nat × List (Instr × Nat)) := [
  (0, [(.aload_n 0, 1), (.getfield 68, 3), (.bipush 6, 2), (.if_icmp .ne 43, 3), (.iconst 0, 1), (.istore_n 1, 1)]),
  (11, [(.iload_n 1, 1), (.sipush 315, 3), (.if_icmp .ge 24, 3), (.aload_n 0, 1), (.getfield 16, 3), (.iload_n 1, 1), (.aload_n 0, 1), (.getfield 16, 3), (.iload_n 1, 1), (.bipush 63, 2), (.iadd, 1), (.iaload, 1), (.iastore, 1), (.iinc 1 1, 3), (.goto (-25), 3)]),
  (39, [(.aload_n 0, 1), (.dup, 1), (.getfield 68, 3), (.iconst 1, 1), (.isub, 1), (.putfield 68, 3)]),
  (49, [(.bipush 63, 2), (.aload_n 0, 1), (.getfield 68, 3), (.imul, 1), (.istore_n 1, 1), (.aload_n 0, 1), (.getfield 16, 3), (.iload_n 1, 1), (.aload_n 0, 1), (.getfield 7, 3), (.iconst 4, 1), (.iaload, 1), (.iastore, 1), (.aload_n 0, 1), (.getfield 16, 3), (.iload_n 1, 1), (.iconst 1, 1), (.iadd, 1), (.aload_n 0, 1), (.getfield 7, 3), (.iconst 5, 1), (.iaload, 1), (.iastore, 1), (.aload_n 0, 1), (.getfield 16, 3), (.iload_n 1, 1), (.iconst 2, 1), (.iadd, 1), (.aload_n 0, 1), (.getfield 7, 3), (.bipush 6, 2), (.iaload, 1), (.iastore, 1), (.iconst 0, 1), (.istore_n 2, 1)]),
  (100, [(.iload_n 2, 1), (.bipush 60, 2), (.if_icmp .ge 28, 3), (.aload_n 0, 1), (.getfield 16, 3), (.iload_n 1, 1), (.iconst 3, 1), (.iadd, 1), (.iload_n 2, 1), (.iadd, 1), (.aload_n 0, 1), (.getfield 7, 3), (.bipush 45, 2), (.iload_n 2, 1), (.iadd, 1), (.iaload, 1), (.iastore, 1), (.iinc 2 1, 3), (.goto (-28), 3)]),
  (131, [(.aload_n 0, 1), (.dup, 1), (.getfield 68, 3), (.iconst 1, 1), (.iadd, 1), (.putfield 68, 3), (.return_, 1)])]
def am_b1049 : List (Nat × List (Instr × Nat)) := [
  (0, [(.aload_n 0, 1), (.getfield 68, 3), (.ifCond .ne 5, 3), (.iconst 0, 1), (.ireturn, 1)]),
  (9, [(.aload_n 0, 1), (.dup, 1), (.getfield 68, 3), (.iconst 1, 1), (.isub, 1), (.putfield 68, 3), (.bipush 63, 2), (.aload_n 0, 1), (.getfield 68, 3), (.imul, 1), (.istore_n 1, 1), (.aload_n 0, 1), (.getfield 7, 3), (.iconst 4, 1), (.aload_n 0, 1), (.getfield 16, 3), (.iload_n 1, 1), (.iaload, 1), (.iastore, 1), (.aload_n 0, 1), (.getfield 7, 3), (.iconst 5, 1), (.aload_n 0, 1), (.getfield 16, 3), (.iload_n 1, 1), (.iconst 1, 1), (.iadd, 1), (.iaload, 1), (.iastore, 1), (.aload_n 0, 1), (.getfield 7, 3), (.bipush 6, 2), (.aload_n 0, 1), (.getfield 16, 3), (.iload_n 1, 1), (.iconst 2, 1), (.iadd, 1), (.iaload, 1), (.iastore, 1), (.iconst 0, 1), (.istore_n 2, 1)]),
  (70, [(.iload_n 2, 1), (.bipush 60, 2), (.if_icmp .ge 28, 3), (.aload_n 0, 1), (.getfield 7, 3), (.bipush 45, 2), (.iload_n 2, 1), (.iadd, 1), (.aload_n 0, 1), (.getfield 16, 3), (.iload_n 1, 1), (.iconst 3, 1), (.iadd, 1), (.iload_n 2, 1), (.iadd, 1), (.iaload, 1), (.iastore, 1), (.iinc 2 1, 3), (.goto (-28), 3)]),
  (101, [(.iconst 1, 1), (.ireturn, 1)])]
def am_b1050 : List (Nat × List (Instr × Nat)) := [
  (0, [(.aload_n 0, 1), (.getfield 7, 3), (.iconst 5, 1), (.iaload, 1), (.bipush 80, 2), (.if_icmp .ne 4, 3), (.return_, 1)]),
  (12, [(.bipush 110, 2), (.iconst 4, 1), (.aload_n 0, 1), (.getfield 7, 3), (.iconst 5, 1), (.iaload, 1), (.imul, 1), (.iadd, 1), (.istore 4, 2), (.aload_n 0, 1), (.getfield 7, 3), (.iload 4, 2), (.aload_n 0, 1), (.getfield 7, 3), (.iconst 4, 1), (.iaload, 1), (.iastore, 1), (.aload_n 0, 1), (.getfield 7, 3), (.iload 4, 2), (.iconst 1, 1), (.iadd, 1), (.iload_n 1, 1), (.iastore, 1), (.aload_n 0, 1), (.getfield 7, 3), (.iload 4, 2), (.iconst 2, 1), (.iadd, 1), (.iload_n 2, 1), (.iastore, 1), (.aload_n 0, 1), (.getfield 7, 3), (.iload 4, 2), (.iconst 3, 1), (.iadd, 1), (.iload_n 3, 1), (.iastore, 1), (.aload_n 0, 1), (.getfield 7, 3), (.iconst 5, 1), (.dup2, 1), (.iaload, 1), (.iconst 1, 1), (.iadd, 1), (.iastore, 1), (.return_, 1)])]
def am_b1051 : List (Nat × List (Instr × Nat)) := [
  (0, [(.iconst 0, 1), (.istore_n 1, 1), (.iconst 0, 1), (.istore_n 2, 1)]),
  (4, [(.iload_n 2, 1), (.aload_n 0, 1), (.getfield 7, 3), (.iconst 1, 1), (.iaload, 1), (.if_icmp .ge 116, 3), (.aload_n 0, 1), (.getfield 7, 3), (.iconst 3, 1), (.iaload, 1), (.ifCond .eq 101, 3), (.aload_n 0, 1), (.sipush 1000, 3), (.invokevirtual 246, 3), (.aload_n 0, 1), (.getfield 7, 3), (.iconst 3, 1), (.iaload, 1), (.if_icmp .lt 6, 3), (.goto 82, 3)]),
  (42, [(.aload_n 0, 1), (.aload_n 0, 1), (.iload_n 2, 1), (.iconst 1, 1), (.invokevirtual 88, 3), (.invokevirtual 246, 3), (.istore_n 3, 1), (.aload_n 0, 1), (.aload_n 0, 1), (.getfield 7, 3), (.iconst 0, 1), (.iaload, 1), (.invokevirtual 246, 3), (.istore 4, 2), (.iload 4, 2), (.aload_n 0, 1), (.iload_n 2, 1), (.iconst 0, 1), (.invokevirtual 88, 3), (.if_icmp .eq 48, 3), (.aload_n 0, 1), (.iload_n 2, 1), (.invokevirtual 236, 3), (.iload 4, 2), (.ishr, 1), (.iconst 1, 1), (.iand, 1), (.iconst 1, 1), (.if_icmp .ne 6, 3), (.goto 31, 3)]),
  (93, [(.aload_n 0, 1), (.iload_n 2, 1), (.aload_n 0, 1), (.iload_n 2, 1), (.iconst 2, 1), (.iload_n 3, 1), (.iadd, 1), (.invokevirtual 88, 3), (.iload 4, 2), (.invokevirtual 249, 3), (.aload_n 0, 1), (.iload_n 2, 1), (.iconst 2, 1), (.iload_n 3, 1), (.iadd, 1), (.iload 4, 2), (.invokevirtual 84, 3), (.iinc 1 1, 3)]),
  (121, [(.iinc 2 1, 3), (.goto (-120), 3)]),
  (127, [(.aload_n 0, 1), (.getfield 7, 3), (.iconst 4, 1), (.dup2, 1), (.iaload, 1), (.iconst 1, 1), (.iadd, 1), (.iastore, 1), (.iload_n 1, 1), (.ireturn, 1)])]
def am_b1052 : List (Nat × List (Instr × Nat)) := [
  (0, [(.iload_n 1, 1), (.iconst 1, 1), (.bipush 50, 2), (.invokestatic 64, 3), (.ifCond .eq 17, 3), (.aload_n 0, 1), (.getfield 7, 3), (.iconst 4, 1), (.iaload, 1), (.iload_n 1, 1), (.iadd, 1), (.sipush 9999, 3), (.if_icmp .le 5, 3)]),
  (24, [(.iconst (-1), 1), (.ireturn, 1)]),
  (26, [(.iconst 0, 1), (.istore_n 2, 1), (.iconst 0, 1), (.istore_n 3, 1)]),
  (30, [(.iload_n 3, 1), (.iload_n 1, 1), (.if_icmp .ge 20, 3), (.aload_n 0, 1), (.invokevirtual 252, 3), (.iload_n 2, 1), (.aload_n 0, 1), (.invokevirtual 255, 3), (.iadd, 1), (.istore_n 2, 1), (.iinc 3 1, 3), (.goto (-19), 3)]),
  (52, [(.iload_n 2, 1), (.ireturn, 1)])]
def am_b1053 : List (Nat × List (Instr × Nat)) := [
  (0, [(.iconst 0, 1), (.istore_n 2, 1)]),
  (2, [(.iload_n 2, 1), (.aload_n 0, 1), (.getfield 7, 3), (.iconst 1, 1), (.iaload, 1), (.if_icmp .ge 24, 3), (.aload_n 0, 1), (.iload_n 2, 1), (.invokevirtual 236, 3), (.iload_n 1, 1), (.ishr, 1), (.iconst 1, 1), (.iand, 1), (.iconst 1, 1), (.if_icmp .ne 5, 3), (.iload_n 2, 1), (.ireturn, 1)]),
  (27, [(.iinc 2 1, 3), (.goto (-28), 3)]),
  (33, [(.iconst (-1), 1), (.ireturn, 1)])]
def am_b1054 : List (Nat × List (Instr × Nat)) := [
  (0, [(.aload_n 0, 1), (.iload_n 1, 1), (.invokevirtual 76, 3), (.ifCond .ne 6, 3), (.bipush (-2), 2), (.ireturn, 1)]),
  (11, [(.iload_n 2, 1), (.tableswitch 137 0 4 #[36, 46, 56, 68, 74], 36)]),
  (48, [(.aload_n 0, 1), (.getfield 7, 3), (.bipush 10, 2), (.iload_n 1, 1), (.iadd, 1), (.iaload, 1), (.ireturn, 1)]),
  (58, [(.aload_n 0, 1), (.getfield 7, 3), (.bipush 26, 2), (.iload_n 1, 1), (.iadd, 1), (.iaload, 1), (.ireturn, 1)]),
  (68, [(.aload_n 0, 1), (.iload_n 1, 1), (.aload_n 0, 1), (.getfield 7, 3), (.iconst 1, 1), (.iaload, 1), (.invokevirtual 258, 3), (.ireturn, 1)]),
  (80, [(.aload_n 0, 1), (.iload_n 1, 1), (.invokevirtual 261, 3), (.ireturn, 1)]),
  (86, [(.iconst 0, 1), (.istore_n 3, 1), (.iconst 0, 1), (.istore 4, 2)]),
  (91, [(.iload 4, 2), (.aload_n 0, 1), (.getfield 7, 3), (.iconst 0, 1), (.iaload, 1), (.if_icmp .ge 48, 3), (.iload_n 3, 1), (.iload 4, 2), (.iload_n 1, 1), (.if_icmp .eq 32, 3), (.aload_n 0, 1), (.getfield 7, 3), (.bipush 10, 2), (.iload 4, 2), (.iadd, 1), (.iaload, 1), (.aload_n 0, 1), (.getfield 7, 3), (.bipush 10, 2), (.iload_n 1, 1), (.iadd, 1), (.iaload, 1), (.if_icmp .ne 10, 3), (.iconst 1, 1), (.iload 4, 2), (.ishl, 1), (.goto 4, 3)]),
  (138, [(.iconst 0, 1)]),
  (139, [(.ior, 1), (.istore_n 3, 1), (.iinc 4 1, 3), (.goto (-53), 3)]),
  (147, [(.iload_n 3, 1), (.ireturn, 1)]),
  (149, [(.bipush (-2), 2), (.ireturn, 1)])]
def am_b1055 : List (Nat × List (Instr × Nat)) := [
  (0, [(.aload_n 0, 1), (.iload_n 1, 1), (.invokevirtual 92, 3), (.ifCond .ne 5, 3), (.iconst (-1), 1), (.ireturn, 1)]),
  (10, [(.iload_n 2, 1), (.tableswitch 53 0 2 #[25, 32, 39], 25)]),
  (36, [(.aload_n 0, 1), (.iload_n 1, 1), (.iconst 0, 1), (.invokevirtual 88, 3), (.ireturn, 1)]),
  (43, [(.aload_n 0, 1), (.iload_n 1, 1), (.iconst 1, 1), (.invokevirtual 88, 3), (.ireturn, 1)]),
  (50, [(.aload_n 0, 1), (.iload_n 1, 1), (.invokevirtual 264, 3), (.ifCond .eq 7, 3), (.iconst 1, 1), (.goto 4, 3)]),
  (62, [(.iconst 0, 1)]),
  (63, [(.ireturn, 1)]),
  (64, [(.iload_n 2, 1), (.bipush 10, 2), (.bipush 9, 2), (.aload_n 0, 1), (.iload_n 1, 1), (.iconst 1, 1), (.invokevirtual 88, 3), (.iadd, 1), (.invokestatic 64, 3), (.ifCond .eq 17, 3), (.aload_n 0, 1), (.iload_n 1, 1), (.iconst 2, 1), (.iload_n 2, 1), (.iadd, 1), (.bipush 10, 2), (.isub, 1), (.invokevirtual 88, 3), (.goto 4, 3)]),
  (96, [(.iconst (-1), 1)]),
  (97, [(.ireturn, 1)])]
def am_b1056 : List (Nat × List (Instr × Nat)) := [
  (0, [(.iconst 0, 1), (.istore_n 3, 1)]),
  (2, [(.iload_n 3, 1), (.iload_n 2, 1), (.if_icmp .ge 21, 3), (.aload_n 0, 1), (.iload_n 3, 1), (.iconst 0, 1), (.invokevirtual 88, 3), (.iload_n 1, 1), (.if_icmp .ne 5, 3), (.iconst 1, 1), (.ireturn, 1)]),
  (19, [(.iinc 3 1, 3), (.goto (-20), 3)]),
  (25, [(.iconst 0, 1), (.ireturn, 1)])]
def am_b1057 : List (Nat × List (Instr × Nat)) := [
  (0, [(.aload_n 0, 1), (.iconst (-1), 1), (.putfield 267, 3), (.aload_n 0, 1), (.aload_n 0, 1), (.iload_n 1, 1), (.iconst 0, 1), (.invokevirtual 88, 3), (.iload_n 1, 1), (.invokevirtual 270, 3), (.ifCond .eq 5, 3), (.iconst 1, 1), (.ireturn, 1)]),
  (21, [(.iconst 0, 1), (.istore_n 2, 1)]),
  (23, [(.iload_n 2, 1), (.aload_n 0, 1), (.iload_n 1, 1), (.iconst 1, 1), (.invokevirtual 88, 3), (.if_icmp .ge 48, 3), (.aload_n 0, 1), (.aload_n 0, 1), (.iload_n 1, 1), (.iconst 2, 1), (.iload_n 2, 1), (.iadd, 1), (.invokevirtual 88, 3), (.iload_n 1, 1), (.invokevirtual 258, 3), (.aload_n 0, 1), (.getfield 7, 3), (.iconst 2, 1), (.iaload, 1), (.if_icmp .ge 6, 3), (.goto 17, 3)]),
  (58, [(.aload_n 0, 1), (.aload_n 0, 1), (.iload_n 1, 1), (.iconst 2, 1), (.iload_n 2, 1), (.iadd, 1), (.invokevirtual 88, 3), (.putfield 267, 3), (.iconst 2, 1), (.ireturn, 1)]),
  (72, [(.iinc 2 1, 3), (.goto (-52), 3)]),
  (78, [(.aload_n 0, 1), (.iload_n 1, 1), (.invokevirtual 264, 3), (.ifCond .ne 5, 3), (.iconst 3, 1), (.ireturn, 1)]),
  (88, [(.iconst 0, 1), (.istore_n 2, 1)]),
  (90, [(.iload_n 2, 1), (.aload_n 0, 1), (.iload_n 1, 1), (.iconst 1, 1), (.invokevirtual 88, 3), (.if_icmp .ge 50, 3), (.aload_n 0, 1), (.iload_n 1, 1), (.iconst 2, 1), (.iload_n 2, 1), (.iadd, 1), (.invokevirtual 88, 3), (.istore_n 3, 1), (.aload_n 0, 1), (.getfield 7, 3), (.bipush 26, 2), (.iload_n 3, 1), (.iadd, 1), (.iaload, 1), (.iconst 1, 1), (.if_icmp .eq 22, 3), (.aload_n 0, 1), (.iload_n 3, 1), (.iload_n 1, 1), (.invokevirtual 270, 3), (.ifCond .eq 6, 3), (.goto 10, 3)]),
  (134, [(.aload_n 0, 1), (.iload_n 3, 1), (.putfield 267, 3), (.iconst 4, 1), (.ireturn, 1)]),
  (141, [(.iinc 2 1, 3), (.goto (-54), 3)]),
  (147, [(.iconst 0, 1), (.ireturn, 1)])]
def am_b1058 : List (Nat × List (Instr × Nat)) := [
  (0, [(.iload_n 1, 1), (.iconst 0, 1), (.iconst 2, 1), (.invokestatic 64, 3), (.ifCond .ne 5, 3), (.iconst (-1), 1), (.ireturn, 1)]),
  (11, [(.iconst 0, 1), (.istore_n 2, 1)]),
  (13, [(.iload_n 2, 1), (.aload_n 0, 1), (.getfield 7, 3), (.iconst 1, 1), (.iaload, 1), (.if_icmp .ge 41, 3), (.aload_n 0, 1), (.iload_n 2, 1), (.invokevirtual 273, 3), (.istore_n 3, 1), (.iload_n 3, 1), (.ifCond .le 25, 3), (.iload_n 1, 1), (.ifCond .ne 7, 3), (.iload_n 3, 1), (.goto 16, 3)]),
  (41, [(.iload_n 1, 1), (.iconst 1, 1), (.if_icmp .ne 7, 3), (.iload_n 2, 1), (.goto 7, 3)]),
  (50, [(.aload_n 0, 1), (.getfield 267, 3)]),
  (54, [(.ireturn, 1)]),
  (55, [(.iinc 2 1, 3), (.goto (-45), 3)]),
  (61, [(.iload_n 1, 1), (.ifCond .ne 7, 3), (.iconst 0, 1), (.goto 4, 3)]),
  (69, [(.iconst (-1), 1)]),
  (70, [(.ireturn, 1)])]
def am_b1059 : List (Nat × List (Instr × Nat)) := [
  (0, [(.iconst 0, 1), (.istore_n 1, 1)]),
  (2, [(.iload_n 1, 1), (.aload_n 0, 1), (.getfield 7, 3), (.iconst 1, 1), (.iaload, 1), (.if_icmp .ge 31, 3), (.aload_n 0, 1), (.getfield 41, 3), (.iload_n 1, 1), (.aload_n 0, 1), (.iload_n 1, 1), (.invokevirtual 236, 3), (.iastore, 1), (.aload_n 0, 1), (.getfield 44, 3), (.iload_n 1, 1), (.aload_n 0, 1), (.iload_n 1, 1), (.invokevirtual 264, 3), (.bastore, 1), (.iinc 1 1, 3), (.goto (-35), 3)]),
  (40, [(.return_, 1)])]
def am_b1060 : List (Nat × List (Instr × Nat)) := [
  (0, [(.iload_n 1, 1), (.istore_n 2, 1), (.iconst (-1), 1), (.istore_n 3, 1), (.aload_n 0, 1), (.iconst (-1), 1), (.putfield 276, 3)]),
  (9, [(.iload_n 3, 1), (.iload_n 2, 1), (.if_icmp .eq 74, 3), (.iload_n 2, 1), (.istore_n 3, 1), (.iconst 0, 1), (.istore 4, 2)]),
  (19, [(.iload 4, 2), (.aload_n 0, 1), (.getfield 7, 3), (.iconst 1, 1), (.iaload, 1), (.if_icmp .ge 45, 3), (.aload_n 0, 1), (.getfield 44, 3), (.iload 4, 2), (.baload, 1), (.ifCond .eq 29, 3), (.aload_n 0, 1), (.getfield 41, 3), (.iload 4, 2), (.iaload, 1), (.iload_n 3, 1), (.iconst (-1), 1), (.ixor, 1), (.iand, 1), (.ifCond .ne 15, 3), (.iload_n 2, 1), (.iconst 1, 1), (.aload_n 0, 1), (.iload 4, 2), (.iconst 0, 1), (.invokevirtual 88, 3), (.ishl, 1), (.ior, 1), (.istore_n 2, 1)]),
  (66, [(.iinc 4 1, 3), (.goto (-50), 3)]),
  (72, [(.aload_n 0, 1), (.dup, 1), (.getfield 276, 3), (.iconst 1, 1), (.iadd, 1), (.putfield 276, 3), (.goto (-73), 3)]),
  (85, [(.iload_n 2, 1), (.ireturn, 1)])]
def am_b1061 : List (Nat × List (Instr × Nat)) := [
  (0, [(.aload_n 0, 1), (.iload_n 1, 1), (.invokevirtual 243, 3), (.ifCond .eq 12, 3), (.iload_n 2, 1), (.iconst 0, 1), (.iconst 1, 1), (.invokestatic 64, 3), (.ifCond .ne 5, 3)]),
  (17, [(.iconst (-1), 1), (.ireturn, 1)]),
  (19, [(.aload_n 0, 1), (.invokevirtual 279, 3), (.aload_n 0, 1), (.iload_n 1, 1), (.invokevirtual 282, 3), (.istore_n 3, 1), (.iload_n 2, 1), (.ifCond .ne 7, 3), (.iload_n 3, 1), (.goto 7, 3)]),
  (37, [(.aload_n 0, 1), (.getfield 276, 3)]),
  (41, [(.ireturn, 1)])]
def am_b1062 : List (Nat × List (Instr × Nat)) := [
  (0, [(.iconst 0, 1), (.istore_n 1, 1), (.iconst 0, 1), (.istore_n 2, 1)]),
  (4, [(.iload_n 2, 1), (.aload_n 0, 1), (.getfield 7, 3), (.iconst 1, 1), (.iaload, 1), (.if_icmp .ge 20, 3), (.iload_n 1, 1), (.iconst 1, 1), (.aload_n 0, 1), (.iload_n 2, 1), (.iconst 0, 1), (.invokevirtual 88, 3), (.ishl, 1), (.ior, 1), (.istore_n 1, 1), (.iinc 2 1, 3), (.goto (-24), 3)]),
  (31, [(.iload_n 1, 1), (.ireturn, 1)])]
def am_b1063 : List (Nat × List (Instr × Nat)) := [
  (0, [(.aload_n 0, 1), (.invokevirtual 279, 3), (.aload_n 0, 1), (.invokevirtual 285, 3), (.istore_n 1, 1), (.iconst (-1), 1), (.istore_n 2, 1), (.iconst 0, 1), (.istore_n 3, 1)]),
  (13, [(.iload_n 3, 1), (.iconst 1, 1), (.aload_n 0, 1), (.getfield 7, 3), (.iconst 0, 1), (.iaload, 1), (.ishl, 1), (.if_icmp .ge 38, 3), (.iload_n 2, 1), (.iconst (-1), 1), (.if_icmp .eq 14, 3), (.iload_n 3, 1), (.invokestatic 230, 3), (.iload_n 2, 1), (.invokestatic 230, 3), (.if_icmp .ge 16, 3)]),
  (41, [(.aload_n 0, 1), (.iload_n 3, 1), (.invokevirtual 282, 3), (.iload_n 1, 1), (.iand, 1), (.iload_n 1, 1), (.if_icmp .ne 5, 3), (.iload_n 3, 1), (.istore_n 2, 1)]),
  (54, [(.iinc 3 1, 3), (.goto (-44), 3)]),
  (60, [(.iload_n 2, 1), (.ireturn, 1)])]
def am_b1064 : List (Nat × List (Instr × Nat)) := [
  (0, [(.iconst 0, 1), (.istore_n 1, 1), (.iconst 0, 1), (.istore_n 2, 1)]),
  (4, [(.iload_n 2, 1), (.aload_n 0, 1), (.getfield 7, 3), (.iconst 0, 1), (.iaload, 1), (.if_icmp .ge 23, 3), (.iload_n 1, 1), (.aload_n 0, 1), (.getfield 7, 3), (.bipush 26, 2), (.iload_n 2, 1), (.iadd, 1), (.iaload, 1), (.iload_n 2, 1), (.ishl, 1), (.ior, 1), (.istore_n 1, 1), (.iinc 2 1, 3), (.goto (-27), 3)]),
  (34, [(.iload_n 1, 1), (.ireturn, 1)])]
def am_b1065 : List (Nat × List (Instr × Nat)) := [
  (0, [(.iload_n 1, 1), (.istore_n 2, 1), (.iconst 1, 1), (.aload_n 0, 1), (.getfield 7, 3), (.iconst 1, 1), (.iaload, 1), (.ishl, 1), (.iconst 1, 1), (.isub, 1), (.istore_n 3, 1), (.aload_n 0, 1), (.iconst 0, 1), (.putfield 288, 3), (.iconst 0, 1), (.istore 4, 2)]),
  (21, [(.iload 4, 2), (.aload_n 0, 1), (.getfield 7, 3), (.iconst 1, 1), (.iaload, 1), (.if_icmp .ge 80, 3), (.iload_n 3, 1), (.iload 4, 2), (.ishr, 1), (.iconst 1, 1), (.iand, 1), (.ifCond .eq 17, 3), (.aload_n 0, 1), (.getfield 41, 3), (.iload 4, 2), (.iaload, 1), (.iload_n 2, 1), (.iconst (-1), 1), (.ixor, 1), (.iand, 1), (.ifCond .eq 9, 3)]),
  (55, [(.iinc 4 1, 3), (.goto (-37), 3)]),
  (61, [(.aload_n 0, 1), (.getfield 48, 3), (.aload_n 0, 1), (.getfield 288, 3), (.iload 4, 2), (.iastore, 1), (.aload_n 0, 1), (.dup, 1), (.getfield 288, 3), (.iconst 1, 1), (.iadd, 1), (.putfield 288, 3), (.iload_n 3, 1), (.iconst 1, 1), (.iload 4, 2), (.ishl, 1), (.iconst (-1), 1), (.ixor, 1), (.iand, 1), (.istore_n 3, 1), (.iload_n 2, 1), (.iconst 1, 1), (.aload_n 0, 1), (.iload 4, 2), (.iconst 0, 1), (.invokevirtual 88, 3), (.ishl, 1), (.ior, 1), (.istore_n 2, 1), (.iconst 0, 1), (.istore 4, 2), (.goto (-85), 3)]),
  (109, [(.iload_n 3, 1), (.ireturn, 1)])]
def am_b1066 : List (Nat × List (Instr × Nat)) := [
  (0, [(.aload_n 0, 1), (.invokevirtual 279, 3), (.aload_n 0, 1), (.aload_n 0, 1), (.invokevirtual 291, 3), (.invokevirtual 294, 3), (.pop, 1), (.iload_n 1, 1), (.iconst 0, 1), (.aload_n 0, 1), (.getfield 288, 3), (.iconst 1, 1), (.isub, 1), (.invokestatic 64, 3), (.ifCond .eq 12, 3), (.aload_n 0, 1), (.getfield 48, 3), (.iload_n 1, 1), (.iaload, 1), (.goto 4, 3)]),
  (36, [(.iconst (-1), 1)]),
  (37, [(.ireturn, 1)])]
def am_b1067 : List (Nat × List (Instr × Nat)) := [
  (0, [(.aload_n 0, 1), (.invokevirtual 279, 3), (.aload_n 0, 1), (.aload_n 0, 1), (.invokevirtual 291, 3), (.invokevirtual 294, 3), (.ireturn, 1)])]
def am_b1068 : List (Nat × List (Instr × Nat)) := [
  (0, [(.aload_n 0, 1), (.invokevirtual 279, 3), (.aload_n 0, 1), (.invokevirtual 291, 3), (.istore_n 1, 1), (.iconst (-1), 1), (.istore_n 2, 1), (.iconst 0, 1), (.istore_n 3, 1)]),
  (13, [(.iload_n 3, 1), (.iconst 1, 1), (.aload_n 0, 1), (.getfield 7, 3), (.iconst 0, 1), (.iaload, 1), (.ishl, 1), (.if_icmp .ge 37, 3), (.iload_n 2, 1), (.iconst (-1), 1), (.if_icmp .eq 14, 3), (.iload_n 3, 1), (.invokestatic 230, 3), (.iload_n 2, 1), (.invokestatic 230, 3), (.if_icmp .ge 15, 3)]),
  (41, [(.aload_n 0, 1), (.iload_n 1, 1), (.iload_n 3, 1), (.ior, 1), (.invokevirtual 294, 3), (.ifCond .ne 5, 3), (.iload_n 3, 1), (.istore_n 2, 1)]),
  (53, [(.iinc 3 1, 3), (.goto (-43), 3)]),
  (59, [(.iload_n 2, 1), (.ireturn, 1)])]
def am_b1069 : List (Nat × List (Instr × Nat)) := [
  (0, [(.iload_n 0, 1), (.istore_n 3, 1), (.iconst 0, 1), (.istore 4, 2)]),
  (5, [(.iload 4, 2), (.bipush 7, 2), (.if_icmp .ge 44, 3), (.iload_n 1, 1), (.iload 4, 2), (.ishr, 1), (.iconst 1, 1), (.iand, 1), (.ifCond .ne 6, 3), (.goto 26, 3)]),
  (24, [(.iload_n 3, 1), (.iconst 2, 1), (.iload 4, 2), (.imul, 1), (.ishr, 1), (.iconst 3, 1), (.iand, 1), (.iload_n 2, 1), (.if_icmp .lt 5, 3), (.iconst (-1), 1), (.ireturn, 1)]),
  (38, [(.iload_n 3, 1), (.iconst 1, 1), (.iconst 2, 1), (.iload 4, 2), (.imul, 1), (.ishl, 1), (.iadd, 1), (.istore_n 3, 1)]),
  (47, [(.iinc 4 1, 3), (.goto (-45), 3)]),
  (53, [(.iload_n 3, 1), (.ireturn, 1)])]
def am_b1070 : List (Nat × List (Instr × Nat)) := [
  (0, [(.iload_n 3, 1), (.ifCond .ne 18, 3), (.aload_n 0, 1), (.getfield 52, 3), (.sipush 16384, 3), (.iload_n 1, 1), (.iconst 1, 1), (.iadd, 1), (.imul, 1), (.iload_n 2, 1), (.iadd, 1), (.iaload, 1), (.ireturn, 1)]),
  (19, [(.aload_n 0, 1), (.getfield 58, 3), (.sipush 128, 3), (.iload_n 1, 1), (.imul, 1), (.iload_n 3, 1), (.iadd, 1), (.baload, 1), (.ifCond .eq 13, 3), (.iload_n 2, 1), (.iload_n 3, 1), (.iload 4, 2), (.invokestatic 297, 3), (.goto 4, 3)]),
  (44, [(.iconst (-1), 1)]),
  (45, [(.istore 5, 2), (.iload 5, 2), (.iconst (-1), 1), (.if_icmp .ne 7, 3), (.iconst (-1), 1), (.goto 20, 3)]),
  (57, [(.iconst 1, 1), (.aload_n 0, 1), (.getfield 52, 3), (.sipush 16384, 3), (.iload_n 1, 1), (.iconst 1, 1), (.iadd, 1), (.imul, 1), (.iload 5, 2), (.iadd, 1), (.iaload, 1), (.iadd, 1)]),
  (74, [(.ireturn, 1)])]
def am_b1071 : List (Nat × List (Instr × Nat)) := [
  (0, [(.aload_n 0, 1), (.getfield 7, 3), (.iconst 0, 1), (.iaload, 1), (.istore_n 2, 1), (.iconst 0, 1), (.istore_n 3, 1)]),
  (9, [(.iload_n 3, 1), (.iload_n 2, 1), (.if_icmp .ge 72, 3), (.iconst 1, 1), (.istore 4, 2)]),
  (17, [(.iload 4, 2), (.iconst 1, 1), (.iload_n 2, 1), (.ishl, 1), (.if_icmp .ge 55, 3), (.aload_n 0, 1), (.getfield 58, 3), (.sipush 128, 3), (.iload_n 3, 1), (.imul, 1), (.iload 4, 2), (.iadd, 1), (.iload 4, 2), (.invokestatic 230, 3), (.iconst 3, 1), (.if_icmp .ge 26, 3), (.iload 4, 2), (.iload_n 3, 1), (.ishr, 1), (.iconst 1, 1), (.iand, 1), (.ifCond .ne 17, 3), (.aload_n 0, 1), (.iload_n 3, 1), (.iload 4, 2), (.invokevirtual 239, 3), (.ifCond .eq 7, 3), (.iconst 1, 1), (.goto 4, 3)]),
  (69, [(.iconst 0, 1)]),
  (70, [(.bastore, 1), (.iinc 4 1, 3), (.goto (-57), 3)]),
  (77, [(.iinc 3 1, 3), (.goto (-71), 3)]),
  (83, [(.iconst 0, 1), (.istore_n 3, 1)]),
  (85, [(.iload_n 3, 1), (.iconst 1, 1), (.iconst 2, 1), (.iload_n 2, 1), (.imul, 1), (.ishl, 1), (.if_icmp .ge 22, 3), (.aload_n 0, 1), (.getfield 52, 3), (.sipush 16384, 3), (.iload_n 2, 1), (.imul, 1), (.iload_n 3, 1), (.iadd, 1), (.iconst 0, 1), (.iastore, 1), (.iinc 3 1, 3), (.goto (-25), 3)]),
  (113, [(.iload_n 2, 1), (.iconst 1, 1), (.isub, 1), (.istore_n 3, 1)]),
  (117, [(.iload_n 3, 1), (.ifCond .lt 91, 3), (.iconst 0, 1), (.istore 4, 2)]),
  (124, [(.iload 4, 2), (.iconst 1, 1), (.iconst 2, 1), (.iload_n 2, 1), (.imul, 1), (.ishl, 1), (.if_icmp .ge 72, 3), (.iconst 0, 1), (.istore 5, 2), (.iconst 0, 1), (.istore 6, 2)]),
  (140, [(.iload 6, 2), (.iconst 1, 1), (.iload_n 2, 1), (.ishl, 1), (.if_icmp .ge 37, 3), (.aload_n 0, 1), (.iload_n 3, 1), (.iload 4, 2), (.iload 6, 2), (.iload_n 1, 1), (.invokevirtual 300, 3), (.istore 7, 2), (.iload 7, 2), (.iload 5, 2), (.if_icmp .le 8, 3), (.iload 7, 2), (.goto 5, 3)]),
  (172, [(.iload 5, 2)]),
  (174, [(.istore 5, 2), (.iinc 6 1, 3), (.goto (-39), 3)]),
  (182, [(.aload_n 0, 1), (.getfield 52, 3), (.sipush 16384, 3), (.iload_n 3, 1), (.imul, 1), (.iload 4, 2), (.iadd, 1), (.iload 5, 2), (.iastore, 1), (.iinc 4 1, 3), (.goto (-76), 3)]),
  (203, [(.iinc 3 (-1), 3), (.goto (-89), 3)]),
  (209, [(.iconst 0, 1), (.istore_n 3, 1), (.iconst 0, 1), (.istore 4, 2)]),
  (214, [(.iload 4, 2), (.iload_n 2, 1), (.if_icmp .ge 61, 3), (.iconst 0, 1), (.istore 5, 2)]),
  (223, [(.aload_n 0, 1), (.iload 4, 2), (.iload_n 3, 1), (.iload 5, 2), (.iload_n 1, 1), (.invokevirtual 300, 3), (.aload_n 0, 1), (.getfield 52, 3), (.sipush 16384, 3), (.iload 4, 2), (.imul, 1), (.iload_n 3, 1), (.iadd, 1), (.iaload, 1), (.if_icmp .eq 9, 3), (.iinc 5 1, 3), (.goto (-29), 3)]),
  (255, [(.aload_n 0, 1), (.getfield 55, 3), (.iload 4, 2), (.iload 5, 2), (.iastore, 1), (.iload_n 3, 1), (.iload 5, 2), (.iload_n 1, 1), (.invokestatic 297, 3), (.istore_n 3, 1), (.iinc 4 1, 3), (.goto (-61), 3)]),
  (278, [(.return_, 1)])]
def am_b1072 : List (Nat × List (Instr × Nat)) := [
  (0, [(.iload_n 1, 1), (.iconst 1, 1), (.iconst 3, 1), (.invokestatic 64, 3), (.ifCond .eq 36, 3), (.aload_n 0, 1), (.getfield 7, 3), (.iconst 0, 1), (.iaload, 1), (.bipush 7, 2), (.if_icmp .gt 25, 3), (.iload_n 2, 1), (.ifCond .eq 23, 3), (.iload_n 2, 1), (.bipush 10, 2), (.bipush 9, 2), (.aload_n 0, 1), (.getfield 7, 3), (.iconst 0, 1), (.iaload, 1), (.iadd, 1), (.invokestatic 64, 3), (.ifCond .ne 5, 3)]),
  (42, [(.iconst (-1), 1), (.ireturn, 1)]),
  (44, [(.aload_n 0, 1), (.iload_n 1, 1), (.invokevirtual 304, 3), (.iload_n 2, 1), (.ifCond .ne 12, 3), (.aload_n 0, 1), (.getfield 52, 3), (.iconst 0, 1), (.iaload, 1), (.goto 12, 3)]),
  (62, [(.aload_n 0, 1), (.getfield 55, 3), (.iload_n 2, 1), (.bipush 10, 2), (.isub, 1), (.iaload, 1)]),
  (71, [(.ireturn, 1)])]
def am_b1073 : List (Nat × List (Instr × Nat)) := [
  (0, [(.aload_n 0, 1), (.iload_n 1, 1), (.invokevirtual 92, 3), (.ifCond .eq 19, 3), (.iload_n 2, 1), (.iconst 0, 1), (.aload_n 0, 1), (.iload_n 1, 1), (.iconst 1, 1), (.invokevirtual 88, 3), (.iconst 1, 1), (.isub, 1), (.invokestatic 64, 3), (.ifCond .ne 5, 3)]),
  (24, [(.iconst (-1), 1), (.ireturn, 1)]),
  (26, [(.aload_n 0, 1), (.iload_n 1, 1), (.invokevirtual 236, 3), (.iconst 1, 1), (.aload_n 0, 1), (.iload_n 1, 1), (.iconst 2, 1), (.iload_n 2, 1), (.iadd, 1), (.invokevirtual 88, 3), (.ishl, 1), (.iconst (-1), 1), (.ixor, 1), (.iand, 1), (.istore_n 3, 1), (.iconst 0, 1), (.istore 4, 2), (.iconst 0, 1), (.istore 5, 2)]),
  (51, [(.iload 5, 2), (.aload_n 0, 1), (.getfield 7, 3), (.iconst 0, 1), (.iaload, 1), (.if_icmp .ge 103, 3), (.iload 5, 2), (.aload_n 0, 1), (.iload_n 1, 1), (.iconst 0, 1), (.invokevirtual 88, 3), (.if_icmp .eq 86, 3), (.iload_n 3, 1), (.iload 5, 2), (.ishr, 1), (.iconst 1, 1), (.iand, 1), (.iconst 1, 1), (.if_icmp .ne 6, 3), (.goto 73, 3)]),
  (86, [(.aload_n 0, 1), (.iload 5, 2), (.aload_n 0, 1), (.getfield 7, 3), (.iconst 1, 1), (.iaload, 1), (.invokevirtual 258, 3), (.aload_n 0, 1), (.iload_n 1, 1), (.invokevirtual 236, 3), (.iload 5, 2), (.ishr, 1), (.iconst 1, 1), (.iand, 1), (.isub, 1), (.iconst 1, 1), (.iadd, 1), (.istore 6, 2), (.iload 4, 2), (.iload 6, 2), (.aload_n 0, 1), (.getfield 7, 3), (.iconst 2, 1), (.iaload, 1), (.if_icmp .gt 29, 3), (.aload_n 0, 1), (.aload_n 0, 1), (.iload_n 1, 1), (.iconst 0, 1), (.invokevirtual 88, 3), (.iload_n 3, 1), (.iconst 1, 1), (.iload 5, 2), (.ishl, 1), (.ior, 1), (.invokevirtual 239, 3), (.ifCond .eq 10, 3), (.iconst 1, 1), (.iload 5, 2), (.ishl, 1), (.goto 4, 3)]),
  (152, [(.iconst 0, 1)]),
  (153, [(.ior, 1), (.istore 4, 2)]),
  (156, [(.iinc 5 1, 3), (.goto (-108), 3)]),
  (162, [(.iload 4, 2), (.ireturn, 1)])]
def am_b1074 : List (Nat × List (Instr × Nat)) := [
  (0, [(.aload_n 0, 1), (.iload_n 1, 1), (.iconst 2, 1), (.iload_n 2, 1), (.iadd, 1), (.invokevirtual 88, 3), (.istore 5, 2), (.aload_n 0, 1), (.iload_n 3, 1), (.iconst 2, 1), (.iload 4, 2), (.iadd, 1), (.invokevirtual 88, 3), (.istore 6, 2), (.aload_n 0, 1), (.iload_n 1, 1), (.invokevirtual 236, 3), (.iconst 1, 1), (.iload 5, 2), (.ishl, 1), (.iconst (-1), 1), (.ixor, 1), (.iand, 1), (.istore 7, 2), (.aload_n 0, 1), (.iload_n 3, 1), (.invokevirtual 236, 3), (.iconst 1, 1), (.iload 6, 2), (.ishl, 1), (.iconst (-1), 1), (.ixor, 1), (.iand, 1), (.istore 8, 2), (.iload 6, 2), (.aload_n 0, 1), (.iload_n 1, 1), (.iconst 0, 1), (.invokevirtual 88, 3), (.if_icmp .eq 36, 3), (.iload 5, 2), (.aload_n 0, 1), (.iload_n 3, 1), (.iconst 0, 1), (.invokevirtual 88, 3), (.if_icmp .eq 25, 3), (.iload 7, 2), (.iload 6, 2), (.ishr, 1), (.iconst 1, 1), (.iand, 1), (.iconst 1, 1), (.if_icmp .eq 14, 3), (.iload 8, 2), (.iload 5, 2), (.ishr, 1), (.iconst 1, 1), (.iand, 1), (.iconst 1, 1), (.if_icmp .ne 5, 3)]),
  (93, [(.iconst 0, 1), (.ireturn, 1)]),
  (95, [(.aload_n 0, 1), (.aload_n 0, 1), (.iload_n 1, 1), (.iconst 0, 1), (.invokevirtual 88, 3), (.iload 7, 2), (.iconst 1, 1), (.iload 6, 2), (.ishl, 1), (.ior, 1), (.invokevirtual 239, 3), (.ifCond .eq 27, 3), (.aload_n 0, 1), (.aload_n 0, 1), (.iload_n 3, 1), (.iconst 0, 1), (.invokevirtual 88, 3), (.iload 8, 2), (.iconst 1, 1), (.iload 5, 2), (.ishl, 1), (.ior, 1), (.invokevirtual 239, 3), (.ifCond .eq 7, 3), (.iconst 1, 1), (.goto 4, 3)]),
  (139, [(.iconst 0, 1)]),
  (140, [(.ireturn, 1)])]
def am_b1075 : List (Nat × List (Instr × Nat)) := [
  (0, [(.iconst 0, 1), (.istore_n 1, 1), (.iconst 0, 1), (.istore_n 2, 1)]),
  (4, [(.iload_n 2, 1), (.iconst 4, 1), (.if_icmp .ge 16, 3), (.aload_n 0, 1), (.getfield 61, 3), (.iload_n 2, 1), (.iconst (-1), 1), (.iastore, 1), (.iinc 2 1, 3), (.goto (-15), 3)]),
  (22, [(.iconst 0, 1), (.istore_n 2, 1)]),
  (24, [(.iload_n 2, 1), (.aload_n 0, 1), (.getfield 7, 3), (.iconst 1, 1), (.iaload, 1), (.if_icmp .ge 143, 3), (.iload_n 2, 1), (.iconst 1, 1), (.iadd, 1), (.istore_n 3, 1)]),
  (38, [(.iload_n 3, 1), (.aload_n 0, 1), (.getfield 7, 3), (.iconst 1, 1), (.iaload, 1), (.if_icmp .ge 123, 3), (.aload_n 0, 1), (.getfield 44, 3), (.iload_n 2, 1), (.baload, 1), (.ifCond .eq 15, 3), (.aload_n 0, 1), (.getfield 44, 3), (.iload_n 3, 1), (.baload, 1), (.ifCond .eq 6, 3), (.goto 96, 3)]),
  (69, [(.iconst 0, 1), (.istore 4, 2)]),
  (72, [(.iload 4, 2), (.aload_n 0, 1), (.iload_n 2, 1), (.iconst 1, 1), (.invokevirtual 88, 3), (.if_icmp .ge 82, 3), (.iconst 0, 1), (.istore 5, 2)]),
  (86, [(.iload 5, 2), (.aload_n 0, 1), (.iload_n 3, 1), (.iconst 1, 1), (.invokevirtual 88, 3), (.if_icmp .ge 62, 3), (.aload_n 0, 1), (.iload_n 2, 1), (.iload 4, 2), (.iload_n 3, 1), (.iload 5, 2), (.invokevirtual 308, 3), (.ifCond .ne 6, 3), (.goto 40, 3)]),
  (113, [(.iload_n 1, 1), (.ifCond .ne 33, 3), (.aload_n 0, 1), (.getfield 61, 3), (.iconst 0, 1), (.iload_n 2, 1), (.iastore, 1), (.aload_n 0, 1), (.getfield 61, 3), (.iconst 1, 1), (.iload_n 3, 1), (.iastore, 1), (.aload_n 0, 1), (.getfield 61, 3), (.iconst 2, 1), (.iload 4, 2), (.iastore, 1), (.aload_n 0, 1), (.getfield 61, 3), (.iconst 3, 1), (.iload 5, 2), (.iastore, 1)]),
  (147, [(.iinc 1 1, 3)]),
  (150, [(.iinc 5 1, 3), (.goto (-67), 3)]),
  (156, [(.iinc 4 1, 3), (.goto (-87), 3)]),
  (162, [(.iinc 3 1, 3), (.goto (-127), 3)]),
  (168, [(.iinc 2 1, 3), (.goto (-147), 3)]),
  (174, [(.iload_n 1, 1), (.ireturn, 1)])]
def am_b1076 : List (Nat × List (Instr × Nat)) := [
  (0, [(.iload_n 1, 1), (.iconst 0, 1), (.iconst 4, 1), (.invokestatic 64, 3), (.ifCond .ne 5, 3), (.iconst (-1), 1), (.ireturn, 1)]),
  (11, [(.aload_n 0, 1), (.invokevirtual 279, 3), (.aload_n 0, 1), (.invokevirtual 311, 3), (.istore_n 2, 1), (.iload_n 1, 1), (.ifCond .ne 7, 3), (.iload_n 2, 1), (.goto 11, 3)]),
  (28, [(.aload_n 0, 1), (.getfield 61, 3), (.iload_n 1, 1), (.iconst 1, 1), (.isub, 1), (.iaload, 1)]),
  (36, [(.ireturn, 1)])]
def am_b1077 : List (Nat × List (Instr × Nat)) := [
  (0, [(.iload_n 1, 1), (.iconst 0, 1), (.aload_n 0, 1), (.getfield 7, 3), (.iconst 5, 1), (.iaload, 1), (.iconst 1, 1), (.isub, 1), (.invokestatic 64, 3), (.ifCond .eq 28, 3), (.iload_n 2, 1), (.iconst 0, 1), (.iconst 3, 1), (.invokestatic 64, 3), (.ifCond .eq 19, 3), (.aload_n 0, 1), (.getfield 7, 3), (.bipush 110, 2), (.iconst 4, 1), (.iload_n 1, 1), (.imul, 1), (.iadd, 1), (.iload_n 2, 1), (.iadd, 1), (.iaload, 1), (.goto 4, 3)]),
  (41, [(.iconst (-1), 1)]),
  (42, [(.ireturn, 1)])]
def am_b1078 : List (Nat × List (Instr × Nat)) := [
  (0, [(.iload_n 1, 1), (.ifCond .ne 12, 3), (.aload_n 0, 1), (.getfield 314, 3), (.ifCond .ne 5, 3), (.iconst 0, 1), (.ireturn, 1)]),
  (13, [(.iconst 0, 1), (.istore_n 2, 1)]),
  (15, [(.iload_n 2, 1), (.sipush 1320, 3), (.if_icmp .ge 40, 3), (.iload_n 1, 1), (.ifCond .eq 18, 3), (.aload_n 0, 1), (.getfield 13, 3), (.iload_n 2, 1), (.aload_n 0, 1), (.getfield 7, 3), (.iload_n 2, 1), (.iaload, 1), (.iastore, 1), (.goto 15, 3)]),
  (41, [(.aload_n 0, 1), (.getfield 7, 3), (.iload_n 2, 1), (.aload_n 0, 1), (.getfield 13, 3), (.iload_n 2, 1), (.iaload, 1), (.iastore, 1)]),
  (53, [(.iinc 2 1, 3), (.goto (-41), 3)]),
  (59, [(.iload_n 1, 1), (.ifCond .ne 7, 3), (.aload_n 0, 1), (.invokevirtual 71, 3)]),
  (67, [(.aload_n 0, 1), (.iconst 1, 1), (.putfield 314, 3), (.iconst 1, 1), (.ireturn, 1)])]
def am_b1079 : List (Nat × List (Instr × Nat)) := [
  (0, [(.iload_n 1, 1), (.iconst 0, 1), (.bipush 6, 2), (.invokestatic 64, 3), (.ifCond .eq 10, 3), (.aload_n 0, 1), (.getfield 7, 3), (.iload_n 1, 1), (.iaload, 1), (.ireturn, 1)]),
  (17, [(.iload_n 1, 1), (.bipush 7, 2), (.if_icmp .ne 14, 3), (.aload_n 0, 1), (.getfield 7, 3), (.sipush 435, 3), (.iaload, 1), (.goto 17, 3)]),
  (34, [(.iload_n 1, 1), (.bipush 8, 2), (.if_icmp .ne 10, 3), (.aload_n 0, 1), (.getfield 68, 3), (.goto 4, 3)]),
  (47, [(.iconst (-1), 1)]),
  (48, [(.ireturn, 1)])]
def am_b1100 : List (Nat × List (Instr × Nat)) := [
  (18, [(.iload_n 3, 1), (.aload_n 0, 1), (.arraylength, 1), (.bipush 6, 2), (.isub, 1), (.if_icmp .gt 895, 3), (.aload_n 0, 1), (.iload_n 3, 1), (.iaload, 1), (.bipush 31, 2), (.iand, 1), (.tableswitch 880 0 26 #[123, 146, 169, 212, 265, 288, 321, 384, 407, 420, 443, 466, 499, 532, 565, 588, 621, 644, 657, 670, 683, 716, 749, 772, 805, 818, 857], 123)]),
  (156, [(.aload_n 1, 1), (.aload_n 0, 1), (.iload_n 3, 1), (.iconst 1, 1), (.iadd, 1), (.iaload, 1), (.invokevirtual 13, 3), (.aload_n 2, 1), (.aload_n 0, 1), (.iload_n 3, 1), (.iconst 1, 1), (.iadd, 1), (.iaload, 1), (.invokevirtual 17, 3), (.if_icmp .eq 739, 3), (.iconst 0, 1), (.ireturn, 1)]),
  (179, [(.aload_n 1, 1), (.aload_n 0, 1), (.iload_n 3, 1), (.iconst 1, 1), (.iadd, 1), (.iaload, 1), (.invokevirtual 18, 3), (.aload_n 2, 1), (.aload_n 0, 1), (.iload_n 3, 1), (.iconst 1, 1), (.iadd, 1), (.iaload, 1), (.invokevirtual 21, 3), (.if_icmp .eq 716, 3), (.iconst 0, 1), (.ireturn, 1)]),
  (202, [(.aload_n 1, 1), (.aload_n 0, 1), (.iload_n 3, 1), (.iconst 1, 1), (.iadd, 1), (.iaload, 1), (.aload_n 0, 1), (.iload_n 3, 1), (.iconst 2, 1), (.iadd, 1), (.iaload, 1), (.aload_n 0, 1), (.iload_n 3, 1), (.iconst 3, 1), (.iadd, 1), (.iaload, 1), (.invokevirtual 22, 3), (.aload_n 2, 1), (.aload_n 0, 1), (.iload_n 3, 1), (.iconst 1, 1), (.iadd, 1), (.iaload, 1), (.aload_n 0, 1), (.iload_n 3, 1), (.iconst 2, 1), (.iadd, 1), (.iaload, 1), (.aload_n 0, 1), (.iload_n 3, 1), (.iconst 3, 1), (.iadd, 1), (.iaload, 1), (.invokevirtual 26, 3), (.if_icmp .eq 673, 3), (.iconst 0, 1), (.ireturn, 1)]),
  (245, [(.aload_n 1, 1), (.aload_n 0, 1), (.iload_n 3, 1), (.iconst 1, 1), (.iadd, 1), (.iaload, 1), (.aload_n 0, 1), (.iload_n 3, 1), (.iconst 2, 1), (.iadd, 1), (.iaload, 1), (.aload_n 0, 1), (.iload_n 3, 1), (.iconst 3, 1), (.iadd, 1), (.iaload, 1), (.aload_n 0, 1), (.iload_n 3, 1), (.iconst 4, 1), (.iadd, 1), (.iaload, 1), (.invokevirtual 27, 3), (.aload_n 2, 1), (.aload_n 0, 1), (.iload_n 3, 1), (.iconst 1, 1), (.iadd, 1), (.iaload, 1), (.aload_n 0, 1), (.iload_n 3, 1), (.iconst 2, 1), (.iadd, 1), (.iaload, 1), (.aload_n 0, 1), (.iload_n 3, 1), (.iconst 3, 1), (.iadd, 1), (.iaload, 1), (.aload_n 0, 1), (.iload_n 3, 1), (.iconst 4, 1), (.iadd, 1), (.iaload, 1), (.invokevirtual 31, 3), (.if_icmp .eq 620, 3), (.iconst 0, 1), (.ireturn, 1)]),
  (298, [(.aload_n 1, 1), (.aload_n 0, 1), (.iload_n 3, 1), (.iconst 1, 1), (.iadd, 1), (.iaload, 1), (.invokevirtual 32, 3), (.aload_n 2, 1), (.aload_n 0, 1), (.iload_n 3, 1), (.iconst 1, 1), (.iadd, 1), (.iaload, 1), (.invokevirtual 36, 3), (.if_icmp .eq 597, 3), (.iconst 0, 1), (.ireturn, 1)]),
  (321, [(.aload_n 1, 1), (.aload_n 0, 1), (.iload_n 3, 1), (.iconst 1, 1), (.iadd, 1), (.iaload, 1), (.aload_n 0, 1), (.iload_n 3, 1), (.iconst 2, 1), (.iadd, 1), (.iaload, 1), (.invokevirtual 37, 3), (.aload_n 2, 1), (.aload_n 0, 1), (.iload_n 3, 1), (.iconst 1, 1), (.iadd, 1), (.iaload, 1), (.aload_n 0, 1), (.iload_n 3, 1), (.iconst 2, 1), (.iadd, 1), (.iaload, 1), (.invokevirtual 41, 3), (.if_icmp .eq 564, 3), (.iconst 0, 1), (.ireturn, 1)]),
  (354, [(.aload_n 1, 1), (.aload_n 0, 1), (.iload_n 3, 1), (.iconst 1, 1), (.iadd, 1), (.iaload, 1), (.aload_n 0, 1), (.iload_n 3, 1), (.iconst 2, 1), (.iadd, 1), (.iaload, 1), (.aload_n 0, 1), (.iload_n 3, 1), (.iconst 3, 1), (.iadd, 1), (.iaload, 1), (.aload_n 0, 1), (.iload_n 3, 1), (.iconst 4, 1), (.iadd, 1), (.iaload, 1), (.aload_n 0, 1), (.iload_n 3, 1), (.iconst 5, 1), (.iadd, 1), (.iaload, 1), (.invokevirtual 42, 3), (.aload_n 2, 1), (.aload_n 0, 1), (.iload_n 3, 1), (.iconst 1, 1), (.iadd, 1), (.iaload, 1), (.aload_n 0, 1), (.iload_n 3, 1), (.iconst 2, 1), (.iadd, 1), (.iaload, 1), (.aload_n 0, 1), (.iload_n 3, 1), (.iconst 3, 1), (.iadd, 1), (.iaload, 1), (.aload_n 0, 1), (.iload_n 3, 1), (.iconst 4, 1), (.iadd, 1), (.iaload, 1), (.aload_n 0, 1), (.iload_n 3, 1), (.iconst 5, 1), (.iadd, 1), (.iaload, 1), (.invokevirtual 46, 3), (.if_icmp .eq 501, 3), (.iconst 0, 1), (.ireturn, 1)]),
  (417, [(.aload_n 1, 1), (.aload_n 0, 1), (.iload_n 3, 1), (.iconst 1, 1), (.iadd, 1), (.iaload, 1), (.invokevirtual 47, 3), (.aload_n 2, 1), (.aload_n 0, 1), (.iload_n 3, 1), (.iconst 1, 1), (.iadd, 1), (.iaload, 1), (.invokevirtual 50, 3), (.if_icmp .eq 478, 3), (.iconst 0, 1), (.ireturn, 1)]),
  (440, [(.aload_n 1, 1), (.invokevirtual 51, 3), (.aload_n 2, 1), (.invokevirtual 55, 3), (.if_icmp .eq 465, 3), (.iconst 0, 1), (.ireturn, 1)]),
  (453, [(.aload_n 1, 1), (.aload_n 0, 1), (.iload_n 3, 1), (.iconst 1, 1), (.iadd, 1), (.iaload, 1), (.invokevirtual 56, 3), (.aload_n 2, 1), (.aload_n 0, 1), (.iload_n 3, 1), (.iconst 1, 1), (.iadd, 1), (.iaload, 1), (.invokevirtual 59, 3), (.if_icmp .eq 442, 3), (.iconst 0, 1), (.ireturn, 1)]),
  (476, [(.aload_n 1, 1), (.aload_n 0, 1), (.iload_n 3, 1), (.iconst 1, 1), (.iadd, 1), (.iaload, 1), (.invokevirtual 60, 3), (.aload_n 2, 1), (.aload_n 0, 1), (.iload_n 3, 1), (.iconst 1, 1), (.iadd, 1), (.iaload, 1), (.invokevirtual 63, 3), (.if_icmp .eq 419, 3), (.iconst 0, 1), (.ireturn, 1)]),
  (499, [(.aload_n 1, 1), (.aload_n 0, 1), (.iload_n 3, 1), (.iconst 1, 1), (.iadd, 1), (.iaload, 1), (.aload_n 0, 1), (.iload_n 3, 1), (.iconst 2, 1), (.iadd, 1), (.iaload, 1), (.invokevirtual 64, 3), (.aload_n 2, 1), (.aload_n 0, 1), (.iload_n 3, 1), (.iconst 1, 1), (.iadd, 1), (.iaload, 1), (.aload_n 0, 1), (.iload_n 3, 1), (.iconst 2, 1), (.iadd, 1), (.iaload, 1), (.invokevirtual 68, 3), (.if_icmp .eq 386, 3), (.iconst 0, 1), (.ireturn, 1)]),
  (532, [(.aload_n 1, 1), (.aload_n 0, 1), (.iload_n 3, 1), (.iconst 1, 1), (.iadd, 1), (.iaload, 1), (.aload_n 0, 1), (.iload_n 3, 1), (.iconst 2, 1), (.iadd, 1), (.iaload, 1), (.invokevirtual 69, 3), (.aload_n 2, 1), (.aload_n 0, 1), (.iload_n 3, 1), (.iconst 1, 1), (.iadd, 1), (.iaload, 1), (.aload_n 0, 1), (.iload_n 3, 1), (.iconst 2, 1), (.iadd, 1), (.iaload, 1), (.invokevirtual 72, 3), (.if_icmp .eq 353, 3), (.iconst 0, 1), (.ireturn, 1)]),
  (565, [(.aload_n 1, 1), (.aload_n 0, 1), (.iload_n 3, 1), (.iconst 1, 1), (.iadd, 1), (.iaload, 1), (.aload_n 0, 1), (.iload_n 3, 1), (.iconst 2, 1), (.iadd, 1), (.iaload, 1), (.invokevirtual 73, 3), (.aload_n 2, 1), (.aload_n 0, 1), (.iload_n 3, 1), (.iconst 1, 1), (.iadd, 1), (.iaload, 1), (.aload_n 0, 1), (.iload_n 3, 1), (.iconst 2, 1), (.iadd, 1), (.iaload, 1), (.invokevirtual 76, 3), (.if_icmp .eq 320, 3), (.iconst 0, 1), (.ireturn, 1)]),
  (598, [(.aload_n 1, 1), (.aload_n 0, 1), (.iload_n 3, 1), (.iconst 1, 1), (.iadd, 1), (.iaload, 1), (.invokevirtual 77, 3), (.aload_n 2, 1), (.aload_n 0, 1), (.iload_n 3, 1), (.iconst 1, 1), (.iadd, 1), (.iaload, 1), (.invokevirtual 80, 3), (.if_icmp .eq 297, 3), (.iconst 0, 1), (.ireturn, 1)]),
  (621, [(.aload_n 1, 1), (.aload_n 0, 1), (.iload_n 3, 1), (.iconst 1, 1), (.iadd, 1), (.iaload, 1), (.aload_n 0, 1), (.iload_n 3, 1), (.iconst 2, 1), (.iadd, 1), (.iaload, 1), (.invokevirtual 81, 3), (.aload_n 2, 1), (.aload_n 0, 1), (.iload_n 3, 1), (.iconst 1, 1), (.iadd, 1), (.iaload, 1), (.aload_n 0, 1), (.iload_n 3, 1), (.iconst 2, 1), (.iadd, 1), (.iaload, 1), (.invokevirtual 84, 3), (.if_icmp .eq 264, 3), (.iconst 0, 1), (.ireturn, 1)]),
  (654, [(.aload_n 1, 1), (.aload_n 0, 1), (.iload_n 3, 1), (.iconst 1, 1), (.iadd, 1), (.iaload, 1), (.invokevirtual 85, 3), (.aload_n 2, 1), (.aload_n 0, 1), (.iload_n 3, 1), (.iconst 1, 1), (.iadd, 1), (.iaload, 1), (.invokevirtual 88, 3), (.if_icmp .eq 241, 3), (.iconst 0, 1), (.ireturn, 1)]),
  (677, [(.aload_n 1, 1), (.invokevirtual 89, 3), (.aload_n 2, 1), (.invokevirtual 92, 3), (.if_icmp .eq 228, 3), (.iconst 0, 1), (.ireturn, 1)]),
  (690, [(.aload_n 1, 1), (.invokevirtual 93, 3), (.aload_n 2, 1), (.invokevirtual 96, 3), (.if_icmp .eq 215, 3), (.iconst 0, 1), (.ireturn, 1)]),
  (703, [(.aload_n 1, 1), (.invokevirtual 97, 3), (.aload_n 2, 1), (.invokevirtual 100, 3), (.if_icmp .eq 202, 3), (.iconst 0, 1), (.ireturn, 1)]),
  (716, [(.aload_n 1, 1), (.aload_n 0, 1), (.iload_n 3, 1), (.iconst 1, 1), (.iadd, 1), (.iaload, 1), (.aload_n 0, 1), (.iload_n 3, 1), (.iconst 2, 1), (.iadd, 1), (.iaload, 1), (.invokevirtual 101, 3), (.aload_n 2, 1), (.aload_n 0, 1), (.iload_n 3, 1), (.iconst 1, 1), (.iadd, 1), (.iaload, 1), (.aload_n 0, 1), (.iload_n 3, 1), (.iconst 2, 1), (.iadd, 1), (.iaload, 1), (.invokevirtual 104, 3), (.if_icmp .eq 169, 3), (.iconst 0, 1), (.ireturn, 1)]),
  (749, [(.aload_n 1, 1), (.aload_n 0, 1), (.iload_n 3, 1), (.iconst 1, 1), (.iadd, 1), (.iaload, 1), (.aload_n 0, 1), (.iload_n 3, 1), (.iconst 2, 1), (.iadd, 1), (.iaload, 1), (.invokevirtual 105, 3), (.aload_n 2, 1), (.aload_n 0, 1), (.iload_n 3, 1), (.iconst 1, 1), (.iadd, 1), (.iaload, 1), (.aload_n 0, 1), (.iload_n 3, 1), (.iconst 2, 1), (.iadd, 1), (.iaload, 1), (.invokevirtual 108, 3), (.if_icmp .eq 136, 3), (.iconst 0, 1), (.ireturn, 1)]),
  (782, [(.aload_n 1, 1), (.aload_n 0, 1), (.iload_n 3, 1), (.iconst 1, 1), (.iadd, 1), (.iaload, 1), (.invokevirtual 109, 3), (.aload_n 2, 1), (.aload_n 0, 1), (.iload_n 3, 1), (.iconst 1, 1), (.iadd, 1), (.iaload, 1), (.invokevirtual 112, 3), (.if_icmp .eq 113, 3), (.iconst 0, 1), (.ireturn, 1)]),
  (805, [(.aload_n 1, 1), (.aload_n 0, 1), (.iload_n 3, 1), (.iconst 1, 1), (.iadd, 1), (.iaload, 1), (.aload_n 0, 1), (.iload_n 3, 1), (.iconst 2, 1), (.iadd, 1), (.iaload, 1), (.invokevirtual 113, 3), (.aload_n 2, 1), (.aload_n 0, 1), (.iload_n 3, 1), (.iconst 1, 1), (.iadd, 1), (.iaload, 1), (.aload_n 0, 1), (.iload_n 3, 1), (.iconst 2, 1), (.iadd, 1), (.iaload, 1), (.invokevirtual 116, 3), (.if_icmp .eq 80, 3), (.iconst 0, 1), (.ireturn, 1)]),
  (838, [(.aload_n 1, 1), (.invokevirtual 117, 3), (.aload_n 2, 1), (.invokevirtual 121, 3), (.if_icmp .eq 67, 3), (.iconst 0, 1), (.ireturn, 1)]),
  (851, [(.aload_n 1, 1), (.aload_n 0, 1), (.iload_n 3, 1), (.iconst 1, 1), (.iadd, 1), (.iaload, 1), (.ifCond .eq 7, 3), (.iconst 1, 1), (.goto 4, 3)]),
  (864, [(.iconst 0, 1)]),
  (865, [(.invokevirtual 122, 3), (.aload_n 2, 1), (.aload_n 0, 1), (.iload_n 3, 1), (.iconst 1, 1), (.iadd, 1), (.iaload, 1), (.ifCond .eq 7, 3), (.iconst 1, 1), (.goto 4, 3)]),
  (881, [(.iconst 0, 1)]),
  (882, [(.invokevirtual 126, 3), (.if_icmp .eq 28, 3), (.iconst 0, 1), (.ireturn, 1)]),
  (890, [(.aload_n 1, 1), (.aload_n 0, 1), (.iload_n 3, 1), (.iconst 1, 1), (.iadd, 1), (.iaload, 1), (.invokevirtual 127, 3), (.aload_n 2, 1), (.aload_n 0, 1), (.iload_n 3, 1), (.iconst 1, 1), (.iadd, 1), (.iaload, 1), (.invokevirtual 130, 3), (.if_icmp .eq 5, 3), (.iconst 0, 1), (.ireturn, 1)]),
  (913, [(.iinc 3 6, 3), (.goto (-898), 3)]),
  (919, [(.iconst 1, 1), (.ireturn, 1)])]
def am_b1200 : List (Nat × List (Instr × Nat)) := [
  (0, [(.iload_n 0, 1), (.iload_n 0, 1), (.iconst 1, 1), (.iushr, 1), (.ldc_w 265, 3), (.iand, 1), (.isub, 1), (.istore_n 0, 1), (.iload_n 0, 1), (.ldc_w 266, 3), (.iand, 1), (.iload_n 0, 1), (.iconst 2, 1), (.iushr, 1), (.ldc_w 266, 3), (.iand, 1), (.iadd, 1), (.istore_n 0, 1), (.iload_n 0, 1), (.iload_n 0, 1), (.iconst 4, 1), (.iushr, 1), (.iadd, 1), (.ldc_w 267, 3), (.iand, 1), (.istore_n 0, 1), (.iload_n 0, 1), (.iload_n 0, 1), (.bipush 8, 2), (.iushr, 1), (.iadd, 1), (.istore_n 0, 1), (.iload_n 0, 1), (.iload_n 0, 1), (.bipush 16, 2), (.iushr, 1), (.iadd, 1), (.istore_n 0, 1), (.iload_n 0, 1), (.bipush 63, 2), (.iand, 1), (.ireturn, 1)])]
def am_b1400 : List (Nat × List (Instr × Nat)) := [
  (0, [(.aload_n 0, 1), (.getfield 9, 3), (.arraylength, 1), (.aload_n 0, 1), (.invokevirtual 335, 3), (.ishr, 1), (.ireturn, 1)])]
def am_b1401 : List (Nat × List (Instr × Nat)) := [
  (0, [(.aload_n 0, 1), (.invokevirtual 492, 3), (.ifCond .eq 12, 3), (.aload_n 0, 1), (.getfield 9, 3), (.iload_n 1, 1), (.invokestatic 495, 3), (.ireturn, 1)]),
  (16, [(.aload_n 0, 1), (.getfield 9, 3), (.iload_n 1, 1), (.invokestatic 498, 3), (.ireturn, 1)])]
def am_b1402 : List (Nat × List (Instr × Nat)) := [
  (0, [(.getstatic 38, 3), (.ifCond .eq 10, 3), (.aload_n 0, 1), (.getfield 15, 3), (.goto 4, 3)]),
  (13, [(.iconst 1, 1)]),
  (14, [(.ireturn, 1)])]
def am_b1403 : List (Nat × List (Instr × Nat)) := [
  (0, [(.getstatic 38, 3), (.ifCond .eq 14, 3), (.aload_n 0, 1), (.getfield 15, 3), (.ifCond .ne 7, 3), (.iconst 1, 1), (.goto 4, 3)]),
  (17, [(.iconst 0, 1)]),
  (18, [(.ireturn, 1)])]
def am_b1404 : List (Nat × List (Instr × Nat)) := [
  (0, [(.iload_n 0, 1), (.iload_n 1, 1), (.getstatic 1053, 3), (.invokestatic 1059, 3), (.pop, 1), (.return_, 1)])]
def am_b1500 : List (Nat × List (Instr × Nat)) := [
  (0, [(.iload_n 1, 1), (.aload_n 0, 1), (.arraylength, 1), (.invokestatic 9, 3), (.aload_n 0, 1), (.iload_n 1, 1), (.baload, 1), (.sipush 255, 3), (.iand, 1), (.i2c, 1), (.ireturn, 1)])]
def am_b1600 : List (Nat × List (Instr × Nat)) := [
  (0, [(.iload_n 0, 1), (.ifCond .lt 8, 3), (.iload_n 0, 1), (.iload_n 1, 1), (.if_icmp .lt 10, 3)]),
  (9, [(.aload_n 2, 1), (.iload_n 0, 1), (.iload_n 1, 1), (.invokestatic 95, 3), (.athrow, 1)]),
  (16, [(.iload_n 0, 1), (.ireturn, 1)])]
def am_BT : List (Nat × List (Nat × List (Instr × Nat))) := [(1, am_b1), (2, am_b2), (3, am_b3), (4, am_b4), (5, am_b5), (101, am_b101), (102, am_b102), (103, am_b103), (104, am_b104), (202, am_b202), (203, am_b203), (204, am_b204), (205, am_b205), (206, am_b206), (207, am_b207), (208, am_b208), (209, am_b209), (210, am_b210), (211, am_b211), (212, am_b212), (213, am_b213), (301, am_b301), (303, am_b303), (304, am_b304), (305, am_b305), (306, am_b306), (307, am_b307), (308, am_b308), (309, am_b309), (310, am_b310), (311, am_b311), (401, am_b401), (402, am_b402), (403, am_b403), (501, am_b501), (502, am_b502), (503, am_b503), (504, am_b504), (505, am_b505), (506, am_b506), (507, am_b507), (508, am_b508), (509, am_b509), (510, am_b510), (511, am_b511), (601, am_b601), (602, am_b602), (603, am_b603), (604, am_b604), (605, am_b605), (606, am_b606), (607, am_b607), (608, am_b608), (609, am_b609), (610, am_b610), (611, am_b611), (701, am_b701), (702, am_b702), (703, am_b703), (704, am_b704), (705, am_b705), (706, am_b706), (707, am_b707), (708, am_b708), (709, am_b709), (710, am_b710), (711, am_b711), (712, am_b712), (713, am_b713), (714, am_b714), (715, am_b715), (716, am_b716), (717, am_b717), (718, am_b718), (719, am_b719), (720, am_b720), (721, am_b721), (722, am_b722), (723, am_b723), (724, am_b724), (725, am_b725), (801, am_b801), (802, am_b802), (803, am_b803), (804, am_b804), (901, am_b901), (902, am_b902), (903, am_b903), (904, am_b904), (905, am_b905), (906, am_b906), (907, am_b907), (908, am_b908), (909, am_b909), (910, am_b910), (911, am_b911), (912, am_b912), (913, am_b913), (914, am_b914), (915, am_b915), (916, am_b916), (917, am_b917), (918, am_b918), (919, am_b919), (920, am_b920), (921, am_b921), (922, am_b922), (923, am_b923), (924, am_b924), (925, am_b925), (926, am_b926), (927, am_b927), (928, am_b928), (929, am_b929), (930, am_b930), (931, am_b931), (932, am_b932), (933, am_b933), (1001, am_b1001), (1002, am_b1002), (1003, am_b1003), (1004, am_b1004), (1005, am_b1005), (1006, am_b1006), (1007, am_b1007), (1008, am_b1008), (1009, am_b1009), (1010, am_b1010), (1011, am_b1011), (1012, am_b1012), (1013, am_b1013), (1014, am_b1014), (1015, am_b1015), (1016, am_b1016), (1017, am_b1017), (1018, am_b1018), (1019, am_b1019), (1020, am_b1020), (1021, am_b1021), (1022, am_b1022), (1023, am_b1023), (1024, am_b1024), (1025, am_b1025), (1026, am_b1026), (1027, am_b1027), (1028, am_b1028), (1029, am_b1029), (1030, am_b1030), (1031, am_b1031), (1032, am_b1032), (1033, am_b1033), (1034, am_b1034), (1035, am_b1035), (1036, am_b1036), (1037, am_b1037), (1038, am_b1038), (1039, am_b1039), (1040, am_b1040), (1041, am_b1041), (1042, am_b1042), (1043, am_b1043), (1044, am_b1044), (1045, am_b1045), (1046, am_b1046), (1047, am_b1047), (1048, am_b1048), (1049, am_b1049), (1050, am_b1050), (1051, am_b1051), (1052, am_b1052), (1053, am_b1053), (1054, am_b1054), (1055, am_b1055), (1056, am_b1056), (1057, am_b1057), (1058, am_b1058), (1059, am_b1059), (1060, am_b1060), (1061, am_b1061), (1062, am_b1062), (1063, am_b1063), (1064, am_b1064), (1065, am_b1065), (1066, am_b1066), (1067, am_b1067), (1068, am_b1068), (1069, am_b1069), (1070, am_b1070), (1071, am_b1071), (1072, am_b1072), (1073, am_b1073), (1074, am_b1074), (1075, am_b1075), (1076, am_b1076), (1077, am_b1077), (1078, am_b1078), (1079, am_b1079), (1100, am_b1100), (1200, am_b1200), (1400, am_b1400), (1401, am_b1401), (1402, am_b1402), (1403, am_b1403), (1404, am_b1404), (1500, am_b1500), (1600, am_b1600)]
/-- a method: its name, its code, how many locals, what it answers, how many parameters, static or not -/
def am_MT : List (Nat × MethodName × ByteArray × Nat × Option FieldType × Nat × Bool) := [
  (1, yX0_passOn, cX0_passOn, 4, none, 1, false),
  (2, yX0_passOnEntry, cX0_passOnEntry, 6, none, 3, false),
  (3, yX0_find, cX0_find, 4, none, 3, false),
  (4, yX0_firstSpent, cX0_firstSpent, 4, (some .int), 2, true),
  (5, yX0_firstOutside, cX0_firstOutside, 5, (some .int), 3, true),
  (101, yX1_copyFrom, cX1_copyFrom, 2, none, 1, false),
  (102, yX1_give, cX1_give, 3, none, 2, false),
  (103, yX1_saysFix, cX1_saysFix, 4, (some .boolean), 0, false),
  (104, yX1_work, cX1_work, 7, (some .int), 2, false),
  (202, yX2_step, cX2_step, 1, none, 0, false),
  (203, yX2_fail, cX2_fail, 2, (some .boolean), 1, false),
  (204, yX2_pass, cX2_pass, 2, (some .boolean), 1, false),
  (205, yX2_put, cX2_put, 2, none, 1, false),
  (206, yX2_readLine, cX2_readLine, 1, (some .boolean), 0, false),
  (207, yX2_readJoined, cX2_readJoined, 5, (some .boolean), 2, false),
  (208, yX2_readCondition, cX2_readCondition, 3, (some .boolean), 1, false),
  (209, yX2_readComparison, cX2_readComparison, 2, (some .boolean), 0, false),
  (210, yX2_readSum, cX2_readSum, 4, (some .boolean), 0, false),
  (211, yX2_readUnit, cX2_readUnit, 3, (some .boolean), 1, false),
  (212, yX2_begin, cX2_begin, 3, none, 2, false),
  (213, yX2_goesOn, cX2_goesOn, 1, (some .boolean), 0, false),
  (301, yX3_pack, cX3_pack, 4, none, 2, false),
  (303, yX3_listSets, cX3_listSets, 5, none, 1, false),
  (304, yX3_singlesThatFix, cX3_singlesThatFix, 5, (some .int), 2, false),
  (305, yX3_addSet, cX3_addSet, 4, none, 3, false),
  (306, yX3_spaced, cX3_spaced, 3, (some .int), 1, true),
  (307, yX3_fits, cX3_fits, 2, (some .boolean), 2, true),
  (308, yX3_mostFrom, cX3_mostFrom, 8, (some .int), 2, false),
  (309, yX3_slotOf, cX3_slotOf, 1, (some .int), 1, true),
  (310, yX3_choose, cX3_choose, 5, none, 1, false),
  (311, yX3_leastSet, cX3_leastSet, 7, (some .int), 3, false),
  (401, yX4_forget, cX4_forget, 1, none, 0, false),
  (402, yX4_keep, cX4_keep, 2, none, 1, false),
  (403, yX4_bringBack, cX4_bringBack, 2, none, 1, false),
  (501, yX5_takeEntries, cX5_takeEntries, 3, none, 1, false),
  (502, yX5_takeFixedEntries, cX5_takeFixedEntries, 3, none, 1, false),
  (503, yX5_addRule, cX5_addRule, 3, none, 2, false),
  (504, yX5_allNeeds, cX5_allNeeds, 3, (some .int), 0, false),
  (505, yX5_learnFrom, cX5_learnFrom, 4, none, 1, false),
  (506, yX5_given, cX5_given, 4, (some .int), 1, false),
  (507, yX5_orderEntries, cX5_orderEntries, 5, none, 1, false),
  (508, yX5_firstReady, cX5_firstReady, 3, (some .int), 1, false),
  (509, yX5_fewest, cX5_fewest, 8, (some .int), 2, false),
  (510, yX5_pick, cX5_pick, 6, (some .int), 3, false),
  (511, yX5_spread, cX5_spread, 6, (some .int), 1, false),
  (601, yX6_split, cX6_split, 6, none, 2, false),
  (602, yX6_add, cX6_add, 3, none, 2, false),
  (603, yX6_endOfToken, cX6_endOfToken, 4, (some .int), 3, true),
  (604, yX6_kindOf, cX6_kindOf, 4, (some .int), 3, true),
  (605, yX6_numberIn, cX6_numberIn, 5, (some .int), 3, true),
  (606, yX6_spells, cX6_spells, 5, (some .boolean), 4, true),
  (607, yX6_isBlank, cX6_isBlank, 1, (some .boolean), 1, true),
  (608, yX6_isLetter, cX6_isLetter, 1, (some .boolean), 1, true),
  (609, yX6_isDigit, cX6_isDigit, 1, (some .boolean), 1, true),
  (610, yX6_keyword, cX6_keyword, 1, (some (.object "java/lang/String")), 1, true),
  (611, yX6_kindOfSign, cX6_kindOfSign, 1, (some .int), 1, true),
  (701, yX7_copyFrom, cX7_copyFrom, 2, none, 1, false),
  (702, yX7_hasWord, cX7_hasWord, 2, (some .boolean), 1, false),
  (703, yX7_hasEntry, cX7_hasEntry, 2, (some .boolean), 1, false),
  (704, yX7_hasSet, cX7_hasSet, 2, (some .boolean), 1, false),
  (705, yX7_canBeEntry, cX7_canBeEntry, 5, (some .boolean), 4, false),
  (706, yX7_addEntry, cX7_addEntry, 6, (some .int), 4, false),
  (707, yX7_moveEntry, cX7_moveEntry, 4, none, 2, false),
  (708, yX7_swapEntries, cX7_swapEntries, 4, none, 2, false),
  (709, yX7_swapNumbers, cX7_swapNumbers, 4, none, 3, true),
  (710, yX7_usedWord, cX7_usedWord, 3, (some .int), 2, false),
  (711, yX7_usedSet, cX7_usedSet, 4, (some .int), 1, false),
  (712, yX7_uses, cX7_uses, 3, (some .boolean), 2, false),
  (713, yX7_usesAhead, cX7_usesAhead, 5, (some .int), 2, false),
  (714, yX7_firstUse, cX7_firstUse, 3, (some .int), 1, false),
  (715, yX7_alike, cX7_alike, 4, (some .int), 1, false),
  (716, yX7_allHeads, cX7_allHeads, 3, (some .int), 0, false),
  (717, yX7_isFixed, cX7_isFixed, 2, (some .boolean), 1, false),
  (718, yX7_fixedBy, cX7_fixedBy, 5, (some .boolean), 2, false),
  (719, yX7_otherWordsWithin, cX7_otherWordsWithin, 5, (some .int), 2, false),
  (720, yX7_readable, cX7_readable, 8, (some .int), 2, false),
  (721, yX7_usesElsewhere, cX7_usesElsewhere, 4, (some .int), 2, false),
  (722, yX7_draw, cX7_draw, 2, (some .int), 1, false),
  (723, yX7_bringOutEdition, cX7_bringOutEdition, 3, (some .int), 0, false),
  (724, yX7_changeWord, cX7_changeWord, 4, (some .boolean), 1, false),
  (725, yX7_writeBook, cX7_writeBook, 5, none, 3, false),
  (801, yX8_seek, cX8_seek, 5, none, 1, false),
  (802, yX8_seekBetween, cX8_seekBetween, 6, none, 3, false),
  (803, yX8_wouldFix, cX8_wouldFix, 6, (some .boolean), 4, true),
  (804, yX8_note, cX8_note, 5, none, 4, false),
  (901, yX9_state, cX9_state, 3, (some .int), 1, false),
  (902, yX9_word, cX9_word, 3, (some .int), 1, false),
  (903, yX9_set, cX9_set, 5, (some .boolean), 3, false),
  (904, yX9_entry, cX9_entry, 6, (some .int), 4, false),
  (905, yX9_drop, cX9_drop, 2, (some .boolean), 1, false),
  (906, yX9_move, cX9_move, 3, (some .boolean), 2, false),
  (907, yX9_feed, cX9_feed, 6, (some .int), 5, false),
  (908, yX9_end, cX9_end, 2, (some .boolean), 1, false),
  (909, yX9_text, cX9_text, 3, (some .int), 0, false),
  (910, yX9_fault, cX9_fault, 2, (some .int), 1, false),
  (911, yX9_editions, cX9_editions, 4, (some .int), 1, false),
  (912, yX9_of, cX9_of, 3, (some .int), 2, false),
  (913, yX9_at, cX9_at, 3, (some .int), 2, false),
  (914, yX9_fixes, cX9_fixes, 3, (some .int), 2, false),
  (915, yX9_judge, cX9_judge, 2, (some .int), 1, false),
  (916, yX9_learnt, cX9_learnt, 3, (some .int), 2, false),
  (917, yX9_order, cX9_order, 2, (some .int), 1, false),
  (918, yX9_ring, cX9_ring, 1, (some .int), 0, false),
  (919, yX9_cut, cX9_cut, 1, (some .int), 0, false),
  (920, yX9_least, cX9_least, 1, (some .int), 0, false),
  (921, yX9_most, cX9_most, 4, (some .int), 2, false),
  (922, yX9_worn, cX9_worn, 3, (some .int), 2, false),
  (923, yX9_trade, cX9_trade, 2, (some .int), 1, false),
  (924, yX9_book, cX9_book, 3, (some .int), 2, false),
  (925, yX9_undo, cX9_undo, 1, (some .boolean), 0, false),
  (926, yX9_image, cX9_image, 2, (some .boolean), 1, false),
  (927, yX9_look, cX9_look, 2, (some .int), 1, false),
  (928, yX9_canBeMarks, cX9_canBeMarks, 1, (some .boolean), 1, true),
  (929, yX9_setLimit, cX9_setLimit, 2, (some .boolean), 1, false),
  (930, yX9_setChange, cX9_setChange, 2, (some .boolean), 1, false),
  (931, yX9_setKnown, cX9_setKnown, 3, (some .boolean), 2, false),
  (932, yX9_setMarks, cX9_setMarks, 3, (some .boolean), 2, false),
  (933, yX9_putBytes, cX9_putBytes, 3, none, 1, false),
  (1001, yX10_isIn, cX10_isIn, 3, (some .boolean), 3, true),
  (1002, yX10_isWord, cX10_isWord, 2, (some .boolean), 1, false),
  (1003, yX10_isEntry, cX10_isEntry, 2, (some .boolean), 1, false),
  (1004, yX10_isSet, cX10_isSet, 2, (some .boolean), 1, false),
  (1005, yX10_own, cX10_own, 3, (some .int), 2, false),
  (1006, yX10_gives, cX10_gives, 4, none, 3, false),
  (1007, yX10_count, cX10_count, 3, (some .int), 1, true),
  (1008, yX10_forgets, cX10_forgets, 1, none, 0, false),
  (1009, yX10_state, cX10_state, 3, (some .int), 1, false),
  (1010, yX10_draw, cX10_draw, 2, (some .int), 1, false),
  (1011, yX10_word, cX10_word, 2, (some .int), 1, false),
  (1012, yX10_set, cX10_set, 4, (some .boolean), 3, false),
  (1013, yX10_isOther, cX10_isOther, 5, (some .boolean), 4, false),
  (1014, yX10_entry, cX10_entry, 6, (some .int), 4, false),
  (1015, yX10_copies, cX10_copies, 4, none, 2, false),
  (1016, yX10_drop, cX10_drop, 3, (some .boolean), 1, false),
  (1017, yX10_move, cX10_move, 4, (some .boolean), 2, false),
  (1018, yX10_feed, cX10_feed, 8, (some .int), 5, false),
  (1019, yX10_end, cX10_end, 2, (some .boolean), 1, false),
  (1020, yX10_see, cX10_see, 2, (some .int), 1, false),
  (1021, yX10_isLetter, cX10_isLetter, 1, (some .boolean), 1, true),
  (1022, yX10_isDigit, cX10_isDigit, 1, (some .boolean), 1, true),
  (1023, yX10_is, cX10_is, 4, (some .boolean), 1, false),
  (1024, yX10_nameWord, cX10_nameWord, 1, (some .int), 0, false),
  (1025, yX10_keyword, cX10_keyword, 1, (some .int), 0, false),
  (1026, yX10_next0, cX10_next0, 3, none, 0, false),
  (1027, yX10_bad, cX10_bad, 2, (some .boolean), 1, false),
  (1028, yX10_need, cX10_need, 2, (some .boolean), 1, false),
  (1029, yX10_lay, cX10_lay, 3, none, 2, false),
  (1030, yX10_opens, cX10_opens, 1, (some .boolean), 0, false),
  (1031, yX10_sumUp, cX10_sumUp, 2, (some .boolean), 0, false),
  (1032, yX10_product, cX10_product, 3, (some .boolean), 0, false),
  (1033, yX10_unit, cX10_unit, 2, (some .boolean), 0, false),
  (1034, yX10_any, cX10_any, 1, (some .boolean), 0, false),
  (1035, yX10_every, cX10_every, 1, (some .boolean), 0, false),
  (1036, yX10_oneTest, cX10_oneTest, 2, (some .boolean), 0, false),
  (1037, yX10_aLine, cX10_aLine, 1, (some .boolean), 0, false),
  (1038, yX10_text, cX10_text, 3, (some .int), 0, false),
  (1039, yX10_fault, cX10_fault, 2, (some .int), 1, false),
  (1040, yX10_both, cX10_both, 3, (some .int), 3, true),
  (1041, yX10_comesTo, cX10_comesTo, 7, (some .int), 2, false),
  (1042, yX10_allMarks, cX10_allMarks, 4, (some .int), 1, false),
  (1043, yX10_isFixed, cX10_isFixed, 5, (some .boolean), 2, false),
  (1044, yX10_usedBy, cX10_usedBy, 4, (some .int), 1, false),
  (1045, yX10_isEntryFixed, cX10_isEntryFixed, 2, (some .boolean), 1, false),
  (1046, yX10_usesAhead, cX10_usesAhead, 5, (some .int), 2, false),
  (1047, yX10_fixes, cX10_fixes, 3, (some .int), 2, false),
  (1048, yX10_keeps, cX10_keeps, 3, none, 0, false),
  (1049, yX10_undo, cX10_undo, 3, (some .boolean), 0, false),
  (1050, yX10_writes, cX10_writes, 5, none, 3, false),
  (1051, yX10_anEdition, cX10_anEdition, 5, (some .int), 0, false),
  (1052, yX10_editions, cX10_editions, 4, (some .int), 1, false),
  (1053, yX10_led, cX10_led, 3, (some .int), 1, false),
  (1054, yX10_of, cX10_of, 5, (some .int), 2, false),
  (1055, yX10_at, cX10_at, 3, (some .int), 2, false),
  (1056, yX10_isHeadAhead, cX10_isHeadAhead, 4, (some .boolean), 2, false),
  (1057, yX10_faultOf, cX10_faultOf, 4, (some .int), 1, false),
  (1058, yX10_judge, cX10_judge, 4, (some .int), 1, false),
  (1059, yX10_laysEntries, cX10_laysEntries, 2, none, 0, false),
  (1060, yX10_learns, cX10_learns, 5, (some .int), 1, false),
  (1061, yX10_learnt, cX10_learnt, 4, (some .int), 2, false),
  (1062, yX10_heads, cX10_heads, 3, (some .int), 0, false),
  (1063, yX10_least, cX10_least, 4, (some .int), 0, false),
  (1064, yX10_knownSet, cX10_knownSet, 3, (some .int), 0, false),
  (1065, yX10_laysOrder, cX10_laysOrder, 5, (some .int), 1, false),
  (1066, yX10_order, cX10_order, 2, (some .int), 1, false),
  (1067, yX10_ring, cX10_ring, 1, (some .int), 0, false),
  (1068, yX10_cut, cX10_cut, 4, (some .int), 0, false),
  (1069, yX10_takes, cX10_takes, 5, (some .int), 3, true),
  (1070, yX10_bestBy, cX10_bestBy, 6, (some .int), 4, false),
  (1071, yX10_laysMost, cX10_laysMost, 8, none, 1, false),
  (1072, yX10_most, cX10_most, 3, (some .int), 2, false),
  (1073, yX10_worn, cX10_worn, 7, (some .int), 2, false),
  (1074, yX10_canTrade, cX10_canTrade, 9, (some .boolean), 4, false),
  (1075, yX10_trades, cX10_trades, 6, (some .int), 0, false),
  (1076, yX10_trade, cX10_trade, 3, (some .int), 1, false),
  (1077, yX10_book, cX10_book, 3, (some .int), 2, false),
  (1078, yX10_image, cX10_image, 3, (some .boolean), 1, false),
  (1079, yX10_look, cX10_look, 2, (some .int), 1, false),
  (1200, yJ6_bitCount_0f7a4, cJ6_bitCount_0f7a4, 1, (some .int), 1, true),
  (1400, yJ0_length_8abf5, cJ0_length_8abf5, 1, (some .int), 0, false),
  (1401, yJ0_charAt_5068e, cJ0_charAt_5068e, 2, (some .char), 1, false),
  (1402, yJ0_coder_7d493, cJ0_coder_7d493, 1, (some .byte), 0, false),
  (1403, yJ0_isLatin1_aae02, cJ0_isLatin1_aae02, 1, (some .boolean), 0, false),
  (1404, yJ0_checkIndex_df160, cJ0_checkIndex_df160, 2, none, 2, true),
  (1500, yJ1_charAt_3b067, cJ1_charAt_3b067, 2, (some .char), 2, true),
  (1600, yJ3_checkIndex_8e157, cJ3_checkIndex_8e157, 3, (some .int), 3, true)]
/-- bounds of the answers of small types -/
def am_zT : List (Nat × Nat) := [(103, 2), (203, 2), (204, 2), (206, 2), (207, 2), (208, 2), (209, 2), (210, 2), (211, 2), (213, 2), (307, 2), (606, 2), (607, 2), (608, 2), (609, 2), (702, 2), (703, 2), (704, 2), (705, 2), (712, 2), (717, 2), (718, 2), (724, 2), (803, 2), (903, 2), (905, 2), (906, 2), (908, 2), (925, 2), (926, 2), (928, 2), (929, 2), (930, 2), (931, 2), (932, 2), (1001, 2), (1002, 2), (1003, 2), (1004, 2), (1012, 2), (1013, 2), (1016, 2), (1017, 2), (1019, 2), (1021, 2), (1022, 2), (1023, 2), (1027, 2), (1028, 2), (1030, 2), (1031, 2), (1032, 2), (1033, 2), (1034, 2), (1035, 2), (1036, 2), (1037, 2), (1043, 2), (1045, 2), (1049, 2), (1056, 2), (1074, 2), (1078, 2), (1100, 2), (1401, 128), (1402, 128), (1403, 2), (1500, 128)]
