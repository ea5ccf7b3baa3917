/-! BIRTH: a second small machine, for constructors: it makes cells, and all its numbers are known -/
abbrev BC : Type := (Nat × List (Option AV)) ⊕ (Nat × List Int32) ⊕ (Nat × List (Option Nat))
def bic_0 : List (List (Nat × IN)) := [[(0, 0, 0, 1, .inl 0, 1), (1, 16, 0, 0, .inl 0, 4), (4, 0, 0, 1, .inl 0, 5), (5, 1, 0, 0, .inl 6, 7), (7, 2, 1, 0, .inl 0, 9), (9, 6, 0, 0, .inl 0, 12), (12, 0, 0, 1, .inl 0, 13), (13, 1, 0, 0, .inl 64, 15), (15, 2, 1, 0, .inl 0, 17), (17, 6, 0, 1, .inl 0, 20), (20, 15, 0, 0, .inl 0, 21)]]
def bic_1 : List (List (Nat × IN)) := [[(0, 0, 0, 1, .inl 0, 1), (1, 16, 0, 0, .inl 0, 4), (4, 0, 0, 1, .inl 0, 5), (5, 1, 0, 0, .inl 10, 7), (7, 2, 1, 0, .inl 0, 9), (9, 6, 1, 0, .inl 0, 12), (12, 0, 0, 1, .inl 0, 13), (13, 1, 0, 0, .inl 0, 14), (14, 6, 1, 1, .inl 0, 17), (17, 0, 0, 1, .inl 0, 18), (18, 1, 0, 0, .inl 0, 19), (19, 6, 1, 2, .inl 0, 22), (22, 0, 0, 1, .inl 0, 23), (23, 1, 0, 0, .inl 0, 24), (24, 6, 1, 3, .inl 0, 27), (27, 0, 0, 1, .inl 0, 28), (28, 1, 0, 0, .inl 0, 29), (29, 6, 1, 4, .inl 0, 32)],
  [(32, 0, 0, 1, .inl 0, 33), (33, 1, 0, 0, .inl 0, 34), (34, 6, 1, 5, .inl 0, 37), (37, 0, 0, 1, .inl 0, 38), (38, 1, 0, 0, .inl 0, 39), (39, 6, 1, 6, .inl 0, 42), (42, 0, 0, 1, .inl 0, 43), (43, 1, 0, 0, .inl 0, 44), (44, 6, 1, 7, .inl 0, 47), (47, 0, 0, 1, .inl 0, 48), (48, 1, 0, 0, .inl 0, 49), (49, 6, 1, 8, .inl 0, 52), (52, 15, 0, 0, .inl 0, 53)]]
def bic_2 : List (List (Nat × IN)) := [[(0, 0, 0, 1, .inl 0, 1), (1, 16, 0, 0, .inl 0, 4), (4, 0, 0, 1, .inl 0, 5), (5, 1, 0, 0, .inl 10, 7), (7, 2, 1, 0, .inl 0, 9), (9, 6, 2, 0, .inl 0, 12), (12, 0, 0, 1, .inl 0, 13), (13, 1, 0, 0, .inl 10, 15), (15, 2, 1, 0, .inl 0, 17), (17, 6, 2, 1, .inl 0, 20), (20, 0, 0, 1, .inl 0, 21), (21, 1, 0, 0, .inl 0, 22), (22, 6, 2, 2, .inl 0, 25), (25, 0, 0, 1, .inl 0, 26), (26, 1, 0, 0, .inl 0, 27), (27, 6, 2, 3, .inl 0, 30), (30, 0, 0, 1, .inl 0, 31), (31, 1, 0, 0, .inl 0, 32)],
  [(32, 6, 2, 4, .inl 0, 35), (35, 0, 0, 1, .inl 0, 36), (36, 1, 0, 0, .inl 0, 37), (37, 6, 2, 5, .inl 0, 40), (40, 15, 0, 0, .inl 0, 41)]]
def bic_3 : List (List (Nat × IN)) := [[(0, 0, 0, 1, .inl 0, 1), (1, 16, 0, 0, .inl 0, 4), (4, 0, 0, 1, .inl 0, 5), (5, 1, 0, 0, .inl 5, 6), (6, 2, 1, 0, .inl 0, 8), (8, 6, 3, 0, .inl 0, 11), (11, 0, 0, 1, .inl 0, 12), (12, 1, 0, 0, .inl 5, 13), (13, 2, 1, 0, .inl 0, 15), (15, 6, 3, 1, .inl 0, 18), (18, 0, 0, 1, .inl 0, 19), (19, 1, 0, 0, .inl 0, 20), (20, 6, 3, 2, .inl 0, 23), (23, 0, 0, 1, .inl 0, 24), (24, 1, 0, 0, .inl 0, 25), (25, 6, 3, 3, .inl 0, 28), (28, 0, 0, 1, .inl 0, 29), (29, 1, 0, 0, .inl 5, 30), (30, 2, 1, 0, .inl 0, 32)],
  [(32, 6, 3, 4, .inl 0, 35), (35, 0, 0, 1, .inl 0, 36), (36, 1, 0, 0, .inl 5, 37), (37, 2, 1, 0, .inl 0, 39), (39, 6, 3, 5, .inl 0, 42), (42, 0, 0, 1, .inl 0, 43), (43, 1, 0, 0, .inl 6, 45), (45, 2, 1, 0, .inl 0, 47), (47, 6, 3, 6, .inl 0, 50), (50, 0, 0, 1, .inl 0, 51), (51, 1, 0, 0, .inl 192, 54), (54, 2, 1, 0, .inl 0, 56), (56, 6, 3, 7, .inl 0, 59), (59, 15, 0, 0, .inl 0, 60)]]
def bic_4 : List (List (Nat × IN)) := [[(0, 0, 0, 1, .inl 0, 1), (1, 16, 0, 0, .inl 0, 4), (4, 0, 0, 1, .inl 0, 5), (5, 1, 0, 0, .inl 40, 7), (7, 2, 2, 0, .inl 0, 9), (9, 6, 4, 0, .inl 0, 12), (12, 0, 0, 1, .inl 0, 13), (13, 1, 0, 0, .inl (-1), 14), (14, 6, 4, 1, .inl 0, 17), (17, 0, 0, 1, .inl 0, 18), (18, 1, 0, 0, .inl 0, 19), (19, 6, 4, 2, .inl 0, 22), (22, 15, 0, 0, .inl 0, 23)]]
def bic_5 : List (List (Nat × IN)) := [[(0, 0, 0, 1, .inl 0, 1), (1, 16, 0, 0, .inl 0, 4), (4, 0, 0, 1, .inl 0, 5), (5, 1, 0, 0, .inl 12, 7), (7, 2, 1, 0, .inl 0, 9), (9, 6, 5, 0, .inl 0, 12), (12, 0, 0, 1, .inl 0, 13), (13, 1, 0, 0, .inl 12, 15), (15, 2, 1, 0, .inl 0, 17), (17, 6, 5, 1, .inl 0, 20), (20, 0, 0, 1, .inl 0, 21), (21, 1, 0, 0, .inl 6, 23), (23, 3, 5, 0, .inl 0, 26), (26, 6, 5, 2, .inl 0, 29), (29, 0, 0, 1, .inl 0, 30), (30, 1, 0, 0, .inl 0, 31), (31, 6, 5, 3, .inl 0, 34)],
  [(34, 0, 0, 1, .inl 0, 35), (35, 1, 0, 0, .inl 0, 36), (36, 6, 5, 4, .inl 0, 39), (39, 0, 0, 1, .inl 0, 40), (40, 1, 0, 0, .inl 3, 41), (41, 6, 5, 5, .inl 0, 44), (44, 0, 0, 1, .inl 0, 45), (45, 1, 0, 0, .inl 1, 46), (46, 6, 5, 6, .inl 0, 49), (49, 1, 0, 0, .inl 0, 50), (50, 10, 1, 0, .inl 0, 51), (51, 0, 1, 0, .inl 0, 52), (52, 1, 0, 0, .inl 6, 54), (54, 13, 0, 76, .inl 0, 57), (57, 0, 0, 1, .inl 0, 58), (58, 7, 5, 2, .inl 0, 61), (61, 0, 1, 0, .inl 0, 62), (62, 4, 2, 0, .inl 0, 65)],
  [(65, 5, 0, 0, .inl 0, 66), (66, 17, 1, 2, .inl 0, 69), (69, 9, 0, 0, .inl 0, 70), (70, 12, 1, 0, .inl 1, 73), (73, 14, 0, 51, .inl 0, 76), (76, 15, 0, 0, .inl 0, 77)]]
def bic_6 : List (List (Nat × IN)) := [[(0, 0, 0, 1, .inl 0, 1), (1, 16, 0, 0, .inl 0, 4), (4, 0, 0, 1, .inl 0, 5), (5, 1, 0, 0, .inl 0, 6), (6, 6, 6, 0, .inl 0, 9), (9, 0, 0, 1, .inl 0, 10), (10, 1, 0, 0, .inl (-1), 11), (11, 6, 6, 1, .inl 0, 14), (14, 0, 0, 1, .inl 0, 15), (15, 1, 0, 0, .inl 250, 18), (18, 2, 1, 0, .inl 0, 20), (20, 6, 6, 2, .inl 0, 23), (23, 0, 0, 1, .inl 0, 24), (24, 1, 0, 0, .inl 0, 25), (25, 6, 6, 3, .inl 0, 28), (28, 0, 0, 1, .inl 0, 29), (29, 1, 0, 0, .inl 0, 30), (30, 6, 6, 4, .inl 0, 33)],
  [(33, 15, 0, 0, .inl 0, 34)]]
def bic_7 : List (List (Nat × IN)) := [[(0, 0, 0, 1, .inl 0, 1), (1, 16, 0, 0, .inl 0, 4), (4, 0, 0, 1, .inl 0, 5), (5, 4, 5, 0, .inl 0, 8), (8, 5, 0, 0, .inl 0, 9), (9, 17, 0, 5, .inl 0, 12), (12, 6, 7, 0, .inl 0, 15), (15, 0, 0, 1, .inl 0, 16), (16, 4, 5, 0, .inl 0, 19), (19, 5, 0, 0, .inl 0, 20), (20, 17, 0, 5, .inl 0, 23), (23, 6, 7, 1, .inl 0, 26), (26, 0, 0, 1, .inl 0, 27), (27, 4, 5, 0, .inl 0, 30), (30, 5, 0, 0, .inl 0, 31), (31, 17, 0, 5, .inl 0, 34)],
  [(34, 6, 7, 2, .inl 0, 37), (37, 0, 0, 1, .inl 0, 38), (38, 4, 2, 0, .inl 0, 41), (41, 5, 0, 0, .inl 0, 42), (42, 17, 1, 2, .inl 0, 45), (45, 6, 7, 3, .inl 0, 48), (48, 0, 0, 1, .inl 0, 49), (49, 4, 1, 0, .inl 0, 52), (52, 5, 0, 0, .inl 0, 53), (53, 17, 1, 1, .inl 0, 56), (56, 6, 7, 4, .inl 0, 59), (59, 0, 0, 1, .inl 0, 60), (60, 4, 3, 0, .inl 0, 63), (63, 5, 0, 0, .inl 0, 64)],
  [(64, 17, 1, 3, .inl 0, 67), (67, 6, 7, 5, .inl 0, 70), (70, 0, 0, 1, .inl 0, 71), (71, 4, 0, 0, .inl 0, 74), (74, 5, 0, 0, .inl 0, 75), (75, 17, 1, 0, .inl 0, 78), (78, 6, 7, 6, .inl 0, 81), (81, 0, 0, 1, .inl 0, 82), (82, 4, 6, 0, .inl 0, 85), (85, 5, 0, 0, .inl 0, 86), (86, 17, 1, 6, .inl 0, 89), (89, 6, 7, 7, .inl 0, 92), (92, 0, 0, 1, .inl 0, 93), (93, 1, 0, 0, .inl 8, 95), (95, 3, 6, 0, .inl 0, 98)],
  [(98, 6, 7, 8, .inl 0, 101), (101, 0, 0, 1, .inl 0, 102), (102, 1, 0, 0, .inl 5, 103), (103, 2, 1, 0, .inl 0, 105), (105, 6, 7, 9, .inl 0, 108), (108, 0, 0, 1, .inl 0, 109), (109, 1, 0, 0, .inl 20, 111), (111, 2, 1, 0, .inl 0, 113), (113, 6, 7, 10, .inl 0, 116), (116, 0, 0, 1, .inl 0, 117), (117, 1, 0, 0, .inl 0, 118), (118, 6, 7, 11, .inl 0, 121), (121, 1, 0, 0, .inl 0, 122), (122, 10, 1, 0, .inl 0, 123), (123, 0, 1, 0, .inl 0, 124), (124, 1, 0, 0, .inl 8, 126), (126, 13, 0, 148, .inl 0, 129)],
  [(129, 0, 0, 1, .inl 0, 130), (130, 7, 7, 8, .inl 0, 133), (133, 0, 1, 0, .inl 0, 134), (134, 4, 4, 0, .inl 0, 137), (137, 5, 0, 0, .inl 0, 138), (138, 17, 1, 4, .inl 0, 141), (141, 9, 0, 0, .inl 0, 142), (142, 12, 1, 0, .inl 1, 145), (145, 14, 0, 123, .inl 0, 148), (148, 15, 0, 0, .inl 0, 149)]]
def bic_8 : List (List (Nat × IN)) := [[(0, 0, 0, 1, .inl 0, 1), (1, 16, 0, 0, .inl 0, 4), (4, 0, 0, 1, .inl 0, 5), (5, 1, 0, 0, .inl 7, 7), (7, 2, 1, 0, .inl 0, 9), (9, 6, 8, 0, .inl 0, 12), (12, 0, 0, 1, .inl 0, 13), (13, 18, 0, 9, .inl 0, 16), (16, 6, 8, 1, .inl 0, 19), (19, 0, 0, 1, .inl 0, 20), (20, 1, 0, 0, .inl 178, 23), (23, 2, 1, 0, .inl 0, 25), (25, 6, 8, 2, .inl 0, 28), (28, 0, 0, 1, .inl 0, 29), (29, 1, 0, 0, .inl 178, 32)],
  [(32, 2, 1, 0, .inl 0, 34), (34, 6, 8, 3, .inl 0, 37), (37, 0, 0, 1, .inl 0, 38), (38, 1, 0, 0, .inl 250, 41), (41, 2, 1, 0, .inl 0, 43), (43, 6, 8, 5, .inl 0, 46), (46, 0, 0, 1, .inl 0, 47), (47, 1, 0, 0, .inl 30, 49), (49, 2, 4, 0, .inl 0, 51), (51, 5, 0, 0, .inl 0, 52), (52, 1, 0, 0, .inl 0, 53), (53, 1, 0, 0, .inl 112, 55), (55, 8, 4, 0, .inl 0, 56), (56, 5, 0, 0, .inl 0, 57), (57, 1, 0, 0, .inl 1, 58), (58, 1, 0, 0, .inl 111, 60), (60, 8, 4, 0, .inl 0, 61), (61, 5, 0, 0, .inl 0, 62), (62, 1, 0, 0, .inl 2, 63), (63, 1, 0, 0, .inl 105, 65)],
  [(65, 8, 4, 0, .inl 0, 66), (66, 5, 0, 0, .inl 0, 67), (67, 1, 0, 0, .inl 3, 68), (68, 1, 0, 0, .inl 110, 70), (70, 8, 4, 0, .inl 0, 71), (71, 5, 0, 0, .inl 0, 72), (72, 1, 0, 0, .inl 4, 73), (73, 1, 0, 0, .inl 116, 75), (75, 8, 4, 0, .inl 0, 76), (76, 5, 0, 0, .inl 0, 77), (77, 1, 0, 0, .inl 5, 78), (78, 1, 0, 0, .inl 0, 79), (79, 8, 4, 0, .inl 0, 80), (80, 5, 0, 0, .inl 0, 81), (81, 1, 0, 0, .inl 6, 83), (83, 1, 0, 0, .inl 112, 85), (85, 8, 4, 0, .inl 0, 86), (86, 5, 0, 0, .inl 0, 87), (87, 1, 0, 0, .inl 7, 89), (89, 1, 0, 0, .inl 97, 91), (91, 8, 4, 0, .inl 0, 92), (92, 5, 0, 0, .inl 0, 93), (93, 1, 0, 0, .inl 8, 95), (95, 1, 0, 0, .inl 114, 97)],
  [(97, 8, 4, 0, .inl 0, 98), (98, 5, 0, 0, .inl 0, 99), (99, 1, 0, 0, .inl 9, 101), (101, 1, 0, 0, .inl 105, 103), (103, 8, 4, 0, .inl 0, 104), (104, 5, 0, 0, .inl 0, 105), (105, 1, 0, 0, .inl 10, 107), (107, 1, 0, 0, .inl 115, 109), (109, 8, 4, 0, .inl 0, 110), (110, 5, 0, 0, .inl 0, 111), (111, 1, 0, 0, .inl 11, 113), (113, 1, 0, 0, .inl 104, 115), (115, 8, 4, 0, .inl 0, 116), (116, 5, 0, 0, .inl 0, 117), (117, 1, 0, 0, .inl 12, 119), (119, 1, 0, 0, .inl 119, 121), (121, 8, 4, 0, .inl 0, 122), (122, 5, 0, 0, .inl 0, 123), (123, 1, 0, 0, .inl 13, 125), (125, 1, 0, 0, .inl 97, 127), (127, 8, 4, 0, .inl 0, 128)],
  [(128, 5, 0, 0, .inl 0, 129), (129, 1, 0, 0, .inl 14, 131), (131, 1, 0, 0, .inl 110, 133), (133, 8, 4, 0, .inl 0, 134), (134, 5, 0, 0, .inl 0, 135), (135, 1, 0, 0, .inl 15, 137), (137, 1, 0, 0, .inl 116, 139), (139, 8, 4, 0, .inl 0, 140), (140, 5, 0, 0, .inl 0, 141), (141, 1, 0, 0, .inl 16, 143), (143, 1, 0, 0, .inl 115, 145), (145, 8, 4, 0, .inl 0, 146), (146, 5, 0, 0, .inl 0, 147), (147, 1, 0, 0, .inl 17, 149), (149, 1, 0, 0, .inl 0, 150), (150, 8, 4, 0, .inl 0, 151), (151, 5, 0, 0, .inl 0, 152), (152, 1, 0, 0, .inl 18, 154), (154, 1, 0, 0, .inl 108, 156), (156, 8, 4, 0, .inl 0, 157), (157, 5, 0, 0, .inl 0, 158), (158, 1, 0, 0, .inl 19, 160)],
  [(160, 1, 0, 0, .inl 105, 162), (162, 8, 4, 0, .inl 0, 163), (163, 5, 0, 0, .inl 0, 164), (164, 1, 0, 0, .inl 20, 166), (166, 1, 0, 0, .inl 110, 168), (168, 8, 4, 0, .inl 0, 169), (169, 5, 0, 0, .inl 0, 170), (170, 1, 0, 0, .inl 21, 172), (172, 1, 0, 0, .inl 101, 174), (174, 8, 4, 0, .inl 0, 175), (175, 5, 0, 0, .inl 0, 176), (176, 1, 0, 0, .inl 22, 178), (178, 1, 0, 0, .inl 0, 179), (179, 8, 4, 0, .inl 0, 180), (180, 5, 0, 0, .inl 0, 181), (181, 1, 0, 0, .inl 23, 183), (183, 1, 0, 0, .inl 0, 184), (184, 8, 4, 0, .inl 0, 185), (185, 5, 0, 0, .inl 0, 186), (186, 1, 0, 0, .inl 24, 188), (188, 1, 0, 0, .inl 99, 190), (190, 8, 4, 0, .inl 0, 191), (191, 5, 0, 0, .inl 0, 192)],
  [(192, 1, 0, 0, .inl 25, 194), (194, 1, 0, 0, .inl 108, 196), (196, 8, 4, 0, .inl 0, 197), (197, 5, 0, 0, .inl 0, 198), (198, 1, 0, 0, .inl 26, 200), (200, 1, 0, 0, .inl 111, 202), (202, 8, 4, 0, .inl 0, 203), (203, 5, 0, 0, .inl 0, 204), (204, 1, 0, 0, .inl 27, 206), (206, 1, 0, 0, .inl 117, 208), (208, 8, 4, 0, .inl 0, 209), (209, 5, 0, 0, .inl 0, 210), (210, 1, 0, 0, .inl 28, 212), (212, 1, 0, 0, .inl 100, 214), (214, 8, 4, 0, .inl 0, 215), (215, 5, 0, 0, .inl 0, 216), (216, 1, 0, 0, .inl 29, 218), (218, 1, 0, 0, .inl 0, 219), (219, 8, 4, 0, .inl 0, 220), (220, 6, 8, 10, .inl 0, 223), (223, 0, 0, 1, .inl 0, 224)],
  [(224, 1, 0, 0, .inl 5, 225), (225, 2, 1, 0, .inl 0, 227), (227, 6, 8, 11, .inl 0, 230), (230, 0, 0, 1, .inl 0, 231), (231, 1, 0, 0, .inl 5, 232), (232, 2, 1, 0, .inl 0, 234), (234, 6, 8, 12, .inl 0, 237), (237, 0, 0, 1, .inl 0, 238), (238, 1, 0, 0, .inl 5, 239), (239, 2, 1, 0, .inl 0, 241), (241, 6, 8, 13, .inl 0, 244), (244, 0, 0, 1, .inl 0, 245), (245, 1, 0, 0, .inl 890, 248), (248, 2, 1, 0, .inl 0, 250), (250, 6, 8, 14, .inl 0, 253), (253, 0, 0, 1, .inl 0, 254), (254, 1, 0, 0, .inl 6, 256)],
  [(256, 2, 1, 0, .inl 0, 258), (258, 6, 8, 17, .inl 0, 261), (261, 0, 0, 1, .inl 0, 262), (262, 1, 0, 0, .inl 8, 264), (264, 2, 1, 0, .inl 0, 266), (266, 5, 0, 0, .inl 0, 267), (267, 1, 0, 0, .inl 0, 268), (268, 1, 0, 0, .inl (-1), 269), (269, 8, 1, 0, .inl 0, 270), (270, 5, 0, 0, .inl 0, 271), (271, 1, 0, 0, .inl 1, 272), (272, 1, 0, 0, .inl (-1), 273), (273, 8, 1, 0, .inl 0, 274), (274, 5, 0, 0, .inl 0, 275), (275, 1, 0, 0, .inl 2, 276), (276, 1, 0, 0, .inl (-1), 277), (277, 8, 1, 0, .inl 0, 278), (278, 5, 0, 0, .inl 0, 279), (279, 1, 0, 0, .inl 3, 280), (280, 1, 0, 0, .inl (-1), 281), (281, 8, 1, 0, .inl 0, 282), (282, 5, 0, 0, .inl 0, 283), (283, 1, 0, 0, .inl 4, 284), (284, 1, 0, 0, .inl (-1), 285), (285, 8, 1, 0, .inl 0, 286), (286, 5, 0, 0, .inl 0, 287), (287, 1, 0, 0, .inl 5, 288)],
  [(288, 1, 0, 0, .inl (-1), 289), (289, 8, 1, 0, .inl 0, 290), (290, 5, 0, 0, .inl 0, 291), (291, 1, 0, 0, .inl 6, 293), (293, 1, 0, 0, .inl (-1), 294), (294, 8, 1, 0, .inl 0, 295), (295, 5, 0, 0, .inl 0, 296), (296, 1, 0, 0, .inl 7, 298), (298, 1, 0, 0, .inl (-1), 299), (299, 8, 1, 0, .inl 0, 300), (300, 6, 8, 18, .inl 0, 303), (303, 0, 0, 1, .inl 0, 304), (304, 1, 0, 0, .inl 8, 306), (306, 2, 1, 0, .inl 0, 308), (308, 6, 8, 19, .inl 0, 311), (311, 0, 0, 1, .inl 0, 312), (312, 1, 0, 0, .inl 320, 315), (315, 2, 2, 0, .inl 0, 317), (317, 6, 8, 20, .inl 0, 320)],
  [(320, 0, 0, 1, .inl 0, 321), (321, 1, 0, 0, .inl 40, 323), (323, 2, 2, 0, .inl 0, 325), (325, 6, 8, 21, .inl 0, 328), (328, 0, 0, 1, .inl 0, 329), (329, 1, 0, 0, .inl 6, 331), (331, 2, 1, 0, .inl 0, 333), (333, 5, 0, 0, .inl 0, 334), (334, 1, 0, 0, .inl 0, 335), (335, 1, 0, 0, .inl (-1), 336), (336, 8, 1, 0, .inl 0, 337), (337, 5, 0, 0, .inl 0, 338), (338, 1, 0, 0, .inl 1, 339), (339, 1, 0, 0, .inl 0, 340), (340, 8, 1, 0, .inl 0, 341), (341, 5, 0, 0, .inl 0, 342), (342, 1, 0, 0, .inl 2, 343), (343, 1, 0, 0, .inl 0, 344), (344, 8, 1, 0, .inl 0, 345), (345, 5, 0, 0, .inl 0, 346), (346, 1, 0, 0, .inl 3, 347), (347, 1, 0, 0, .inl 1, 348), (348, 8, 1, 0, .inl 0, 349), (349, 5, 0, 0, .inl 0, 350), (350, 1, 0, 0, .inl 4, 351), (351, 1, 0, 0, .inl 2, 352)],
  [(352, 8, 1, 0, .inl 0, 353), (353, 5, 0, 0, .inl 0, 354), (354, 1, 0, 0, .inl 5, 355), (355, 1, 0, 0, .inl 0, 356), (356, 8, 1, 0, .inl 0, 357), (357, 6, 8, 22, .inl 0, 360), (360, 0, 0, 1, .inl 0, 361), (361, 1, 0, 0, .inl 144, 364), (364, 2, 3, 0, .inl 0, 366), (366, 6, 8, 23, .inl 0, 369), (369, 15, 0, 0, .inl 0, 370)]]
def bic_9 : List (List (Nat × IN)) := [[(0, 1, 0, 0, .inl 178, 3), (3, 2, 1, 0, .inl 0, 5), (5, 11, 0, 0, .inl 0, 6), (6, 0, 0, 1, .inl 0, 7), (7, 1, 0, 0, .inl 176, 10), (10, 1, 0, 0, .inl 3, 11), (11, 8, 1, 0, .inl 0, 12), (12, 0, 0, 1, .inl 0, 13), (13, 1, 0, 0, .inl 177, 16), (16, 1, 0, 0, .inl 1, 17), (17, 8, 1, 0, .inl 0, 18), (18, 0, 0, 1, .inl 0, 19), (19, 15, 1, 0, .inl 0, 20)]]
def bic_10 : List (List (Nat × IN)) := [[(0, 4, 7, 0, .inl 0, 3), (3, 5, 0, 0, .inl 0, 4), (4, 17, 0, 7, .inl 0, 7), (7, 11, 1, 0, .inl 0, 8), (8, 4, 8, 0, .inl 0, 11), (11, 5, 0, 0, .inl 0, 12), (12, 17, 0, 8, .inl 0, 15), (15, 11, 2, 0, .inl 0, 16)]]
def bicode (m : Nat) : List (List (Nat × IN)) := bif Nat.blt m 11 then (bif Nat.blt m 5 then (bif Nat.blt m 2 then (bif Nat.blt m 1 then (bic_0) else (bic_1)) else (bif Nat.blt m 3 then (bic_2) else (bif Nat.blt m 4 then (bic_3) else (bic_4)))) else (bif Nat.blt m 8 then (bif Nat.blt m 6 then (bic_5) else (bif Nat.blt m 7 then (bic_6) else (bic_7))) else (bif Nat.blt m 9 then (bic_8) else (bif Nat.blt m 10 then (bic_9) else (bic_10))))) else []
def bins (m pc : Nat) : IN := match nth (bicode m) (pc / 32) with
  | some c => (match lkp c pc with
    | some e => e
    | none => (99, 0, 0, .inl 0, 0))
  | none => (99, 0, 0, .inl 0, 0)
def bnl (m : Nat) : Nat := bif Nat.blt m 11 then (bif Nat.blt m 5 then (bif Nat.blt m 2 then (bif Nat.blt m 1 then (1) else (1)) else (bif Nat.blt m 3 then (1) else (bif Nat.blt m 4 then (1) else (1)))) else (bif Nat.blt m 8 then (bif Nat.blt m 6 then (2) else (bif Nat.blt m 7 then (1) else (2))) else (bif Nat.blt m 9 then (1) else (bif Nat.blt m 10 then (1) else (4))))) else 0
def bmc (m : Nat) : Nat := bif Nat.blt m 11 then (bif Nat.blt m 5 then (bif Nat.blt m 2 then (bif Nat.blt m 1 then (2) else (1)) else (bif Nat.blt m 3 then (2) else (bif Nat.blt m 4 then (6) else (1)))) else (bif Nat.blt m 8 then (bif Nat.blt m 6 then (21) else (bif Nat.blt m 7 then (1) else (102))) else (bif Nat.blt m 9 then (17) else (bif Nat.blt m 10 then (1) else (125))))) else 0
def bms (m : Nat) : Nat := bif Nat.blt m 11 then (bif Nat.blt m 5 then (bif Nat.blt m 2 then (bif Nat.blt m 1 then (70) else (10)) else (bif Nat.blt m 3 then (20) else (bif Nat.blt m 4 then (218) else (40)))) else (bif Nat.blt m 8 then (bif Nat.blt m 6 then (186) else (bif Nat.blt m 7 then (250) else (1554))) else (bif Nat.blt m 9 then (4000) else (bif Nat.blt m 10 then (178) else (5590))))) else 0
def bbyt (m : Nat) : ByteArray := bif Nat.blt m 11 then (bif Nat.blt m 5 then (bif Nat.blt m 2 then (bif Nat.blt m 1 then (cX0_init) else (cX1_init)) else (bif Nat.blt m 3 then (cX2_init) else (bif Nat.blt m 4 then (cX3_init) else (cX4_init)))) else (bif Nat.blt m 8 then (bif Nat.blt m 6 then (cX6_init) else (bif Nat.blt m 7 then (cX7_init) else (cX8_init))) else (bif Nat.blt m 9 then (cX9_init) else (bif Nat.blt m 10 then (cX9_fresh) else (cL_law))))) else cL_law
def byM (m : Nat) : MethodName := bif Nat.blt m 11 then (bif Nat.blt m 5 then (bif Nat.blt m 2 then (bif Nat.blt m 1 then (yX0_init) else (yX1_init)) else (bif Nat.blt m 3 then (yX2_init) else (bif Nat.blt m 4 then (yX3_init) else (yX4_init)))) else (bif Nat.blt m 8 then (bif Nat.blt m 6 then (yX6_init) else (bif Nat.blt m 7 then (yX7_init) else (yX8_init))) else (bif Nat.blt m 9 then (yX9_init) else (bif Nat.blt m 10 then (yX9_fresh) else (yL_law))))) else yL_law
def bow (m : Nat) : String := bif Nat.blt m 11 then (bif Nat.blt m 5 then (bif Nat.blt m 2 then (bif Nat.blt m 1 then (RX0) else (RX1)) else (bif Nat.blt m 3 then (RX2) else (bif Nat.blt m 4 then (RX3) else (RX4)))) else (bif Nat.blt m 8 then (bif Nat.blt m 6 then (RX6) else (bif Nat.blt m 7 then (RX7) else (RX8))) else (bif Nat.blt m 9 then (RX9) else (bif Nat.blt m 10 then (RX9) else (RL))))) else ""
/-- a new object's fields -/
def bdef (ci : Nat) : List (Option AV) := (List.range (((nth vwCl ci).map fun q => q.2.2).getD 0)).map fun k => match parseFieldDescriptor (TTc ci k).2.2.1 with
  | some .int => some (.inl 0)
  | some .boolean => some (.inl 0)
  | _ => none
def isRefT : Option FieldType → Bool
  | some (.object _) => true
  | some (.array _) => true
  | _ => false
/-- may this value stand in field k of class ci? -/
def pfok (ci k : Nat) : AV → Bool
  | .inl x => decide (parseFieldDescriptor (TTc ci k).2.2.1 = some .int) || (decide (parseFieldDescriptor (TTc ci k).2.2.1 = some .boolean) && decide (x = 0 ∨ x = 1))
  | .inr (.inr (0, _)) => isRefT (parseFieldDescriptor (TTc ci k).2.2.1)
  | _ => false
def isT0 : AV → Bool
  | .inr (.inr (t, _)) => Nat.beq t 0
  | _ => true
def okr (n : Nat) : AV → Bool
  | .inr (.inr (0, i)) => Nat.blt i n
  | _ => true
def okro (n : Nat) : Option AV → Bool
  | some v => okr n v
  | none => true
def wfC (n : Nat) : BC → Bool
  | .inl (_, fs) => fs.all (okro n)
  | .inr (.inl _) => true
  | .inr (.inr (_, c)) => c.all fun o => match o with
    | some i => Nat.blt i n
    | none => true
/-- all references are to cells that are there -/
def wfB (n : Nat) (L : AL) (S : AS) (hp : List BC) : Bool := L.all (okro n) && (S.all (okr n) && hp.all (wfC n))
def bgo : Nat → Nat → Nat → Nat → AL → AS → List BC → Nat → Nat → Option (Option AV × List BC × AL × Nat × Nat)
  | 0, _, _, _, _, _, _, _, _ => none
  | f + 1, d, m, pc, L, S, hp, uc, us =>
    if m = 10 ∧ pc = 16 then (match S with
      | [] => some (none, hp, L, uc, us)
      | _ => none) else
    match bins m pc with
    | (op, a, b, v, nx) =>
      if op = 0 then (match lget L a with
        | some w => if kd w = b ∧ b ≤ 1 then bgo f d m nx L (w :: S) hp uc us else none
        | none => none)
      else if op = 1 then (match v with
        | .inl x => bgo f d m nx L (.inl x :: S) hp uc us
        | _ => none)
      else if op = 2 then (match S with
        | .inl n :: R => if ¬ n < 0 ∧ n.toNatClampNeg ≤ 1000 ∧ uc + 1 ≤ bmc m ∧ us + n.toNatClampNeg ≤ bms m ∧ wfB hp.length L R hp = true then bgo f d m nx L (.inr (.inr (0, hp.length)) :: R) (hp ++ [.inr (.inl (a, List.replicate n.toNatClampNeg 0))]) (uc + 1) (us + n.toNatClampNeg) else none
        | _ => none)
      else if op = 3 then (match S with
        | .inl n :: R => if ¬ n < 0 ∧ n.toNatClampNeg ≤ 1000 ∧ uc + 1 ≤ bmc m ∧ us + n.toNatClampNeg ≤ bms m ∧ wfB hp.length L R hp = true then bgo f d m nx L (.inr (.inr (0, hp.length)) :: R) (hp ++ [.inr (.inr (a, List.replicate n.toNatClampNeg none))]) (uc + 1) (us + n.toNatClampNeg) else none
        | _ => none)
      else if op = 4 then (if uc + 1 ≤ bmc m ∧ us + (bdef a).length ≤ bms m ∧ wfB hp.length L S hp = true then bgo f d m nx L (.inr (.inr (0, hp.length)) :: S) (hp ++ [.inl (a, bdef a)]) (uc + 1) (us + (bdef a).length) else none)
      else if op = 5 then (match S with
        | w :: R => if ctg w = 1 then bgo f d m nx L (w :: w :: R) hp uc us else none
        | _ => none)
      else if op = 6 then (match S with
        | w :: .inr (.inr (0, i)) :: R => (match nth hp i with
          | some (.inl (ci, fs)) => if ci = a ∧ b < fs.length ∧ pfok a b w = true then bgo f d m nx L R (hp.set i (.inl (ci, fs.set b (some w)))) uc us else none
          | _ => none)
        | _ => none)
      else if op = 7 then (match S with
        | .inr (.inr (0, i)) :: R => (match nth hp i with
          | some (.inl (ci, fs)) => if ci = a then (match nth fs b with
            | some (some w) => if isT0 w = true then bgo f d m nx L (w :: R) hp uc us else none
            | _ => none) else none
          | _ => none)
        | _ => none)
      else if op = 8 then (match S with
        | .inl x :: .inl j :: .inr (.inr (0, i)) :: R => (match nth hp i with
          | some (.inr (.inl (k, c))) => if k = a ∧ ¬ (j < 0 ∨ c.length ≤ j.toNatClampNeg) ∧ (a = 1 ∨ a = 4 ∧ vp_nar .char x = x) then bgo f d m nx L R (hp.set i (.inr (.inl (k, c.set j.toNatClampNeg x)))) uc us else none
          | _ => none)
        | _ => none)
      else if op = 9 then (match S with
        | .inr (.inr (0, w)) :: .inl j :: .inr (.inr (0, i)) :: R => (match nth hp i, nth hp w with
          | some (.inr (.inr (k, c))), some (.inl (ci, _)) => if (k = 5 ∧ ci = 2 ∨ k = 6 ∧ ci = 4) ∧ ¬ (j < 0 ∨ c.length ≤ j.toNatClampNeg) then bgo f d m nx L R (hp.set i (.inr (.inr (k, c.set j.toNatClampNeg (some w))))) uc us else none
          | _, _ => none)
        | _ => none)
      else if op = 10 then (match S with
        | .inl x :: R => if a < bnl m then bgo f d m nx (sto1 L a (.inl x)) R hp uc us else none
        | _ => none)
      else if op = 11 then (match S with
        | .inr (.inr q) :: R => if a < bnl m then bgo f d m nx (sto1 L a (.inr (.inr q))) R hp uc us else none
        | _ => none)
      else if op = 12 then (match lget L a, v with
        | some (.inl x), .inl z => bgo f d m nx (sto1 L a (.inl (x + z))) S hp uc us
        | _, _ => none)
      else if op = 13 then (match S with
        | .inl y :: .inl x :: R => if y ≤ x then bgo f d m b L R hp uc us else bgo f d m nx L R hp uc us
        | _ => none)
      else if op = 14 then bgo f d m b L S hp uc us
      else if op = 15 then (if uc ≤ bmc m ∧ us ≤ bms m then (if a = 0 then (match S with
          | [] => some (none, hp, L, uc, us)
          | _ => none) else (match S with
          | [.inr (.inr q)] => some (some (.inr (.inr q)), hp, L, uc, us)
          | _ => none)) else none)
      else if op = 16 then (match S with
        | .inr (.inr _) :: R => if csum R ≤ 8 then bgo f d m nx L R hp uc us else none
        | _ => none)
      else if op = 17 then (match d, S with
        | d' + 1, .inr (.inr (0, i)) :: R => (match bgo f d' b 0 (padL (bnl b) [some (.inr (.inr (0, i)))]) [] hp 0 0 with
          | some (none, hp', _, _, _) => if b < 9 ∧ wfB hp.length L R hp = true ∧ csum R ≤ 8 ∧ uc + bmc b ≤ bmc m ∧ us + bms b ≤ bms m then bgo f d m nx L R hp' (uc + bmc b) (us + bms b) else none
          | _ => none)
        | _, _ => none)
      else if op = 18 then (match d with
        | d' + 1 => (match bgo f d' b 0 (padL (bnl b) []) [] hp 0 0 with
          | some (some (.inr (.inr (0, i))), hp', _, _, _) => if b = 9 ∧ wfB hp.length L S hp = true ∧ csum S ≤ 8 ∧ uc + bmc b ≤ bmc m ∧ us + bms b ≤ bms m then bgo f d m nx L (.inr (.inr (0, i)) :: S) hp' (uc + bmc b) (us + bms b) else none
          | _ => none)
        | _ => none)
      else none
def bL0 : AL := [some (.inr (.inr (9, 0))), none, none, none]
def bfl : List (Nat × Nat × Nat × Nat × Nat) := [(0, 9, 0, 0, 301), (0, 15, 0, 1, 302), (1, 9, 1, 0, 225), (1, 15, 1, 1, 226), (1, 19, 1, 2, 228), (1, 22, 1, 3, 230), (1, 25, 1, 4, 232), (1, 28, 1, 5, 234), (1, 31, 1, 6, 236), (1, 34, 1, 7, 237), (1, 37, 1, 8, 239), (2, 9, 2, 0, 139), (2, 15, 2, 1, 143), (2, 18, 2, 2, 147), (2, 22, 2, 3, 151), (2, 25, 2, 4, 155), (2, 28, 2, 5, 160), (3, 9, 3, 0, 266), (3, 15, 3, 1, 268), (3, 18, 3, 2, 270), (3, 22, 3, 3, 272), (3, 25, 3, 4, 274), (3, 28, 3, 5, 275), (3, 31, 3, 6, 276), (3, 34, 3, 7, 277), (4, 9, 4, 0, 339), (4, 15, 4, 1, 341), (4, 19, 4, 2, 343), (5, 9, 5, 0, 179), (5, 15, 5, 1, 181), (5, 20, 5, 2, 183), (5, 24, 5, 3, 188), (5, 28, 5, 4, 192), (5, 31, 5, 5, 197), (5, 34, 5, 6, 200), (6, 9, 6, 0, 314), (6, 15, 6, 1, 316), (6, 18, 6, 2, 318), (6, 22, 6, 3, 319), (6, 25, 6, 4, 320), (7, 10, 7, 0, 353), (7, 16, 7, 1, 354), (7, 19, 7, 2, 355), (7, 25, 7, 3, 356), (7, 32, 7, 4, 357), (7, 39, 7, 5, 358), (7, 46, 7, 6, 359), (7, 53, 7, 7, 360), (7, 59, 7, 8, 361), (7, 63, 7, 9, 362), (7, 67, 7, 10, 363), (7, 70, 7, 11, 364), (8, 7, 8, 0, 1032), (8, 17, 8, 1, 1033), (8, 20, 8, 2, 1034), (8, 23, 8, 3, 1035), (8, 26, 8, 5, 1037), (8, 29, 8, 10, 1042), (8, 33, 8, 11, 1043), (8, 36, 8, 12, 1044), (8, 39, 8, 13, 1045), (8, 42, 8, 14, 1046), (8, 45, 8, 17, 1049), (8, 48, 8, 18, 1050), (8, 51, 8, 19, 1051), (8, 54, 8, 20, 1052), (8, 58, 8, 21, 1053), (8, 61, 8, 22, 1054), (8, 64, 8, 23, 1055)]
def bcl : List (Nat × Nat × Nat × Nat) := [(5, 18, 2, 132), (7, 7, 5, 126), (7, 22, 2, 217), (7, 29, 1, 219), (7, 36, 3, 260), (7, 43, 0, 295), (7, 50, 6, 308), (7, 57, 4, 332), (10, 7, 7, 118), (10, 10, 8, 1023)]
def bml : List (Nat × Nat × Nat × Nat) := [(7, 9, 5, 128), (8, 13, 9, 1029), (10, 9, 7, 120), (10, 12, 8, 1025)]
def bnst : List (Nat × Nat × Nat) := [(5, 37, 2), (7, 24, 2), (7, 31, 1), (7, 38, 3), (7, 45, 0), (7, 52, 6), (7, 74, 4)]
def bob : List (Nat × Nat × Nat) := [(0, 3, 300), (1, 3, 224), (2, 3, 138), (3, 3, 265), (4, 3, 338), (5, 3, 131), (6, 3, 313), (7, 1, 123), (8, 1, 1028)]
def cnm (ci : Nat) : String := ((nth vwCl ci).map fun r => r.1).getD ""
set_option maxRecDepth 100000 in
theorem bfl_ok : ∀ q ∈ bfl, lw_tbl[q.2.2.2.2]? = some (.fieldLink (bow q.1) q.2.1 (TTc q.2.2.1 q.2.2.2.1).1 (TTc q.2.2.1 q.2.2.2.1).2.1 (TTc q.2.2.1 q.2.2.2.1).2.2.1) := by decide +kernel
theorem bfl_b : ∀ q ∈ bfl, q.2.2.1 ≤ 8 ∧ q.2.2.2.1 < ((nth vwCl q.2.2.1).map fun r => r.2.2).getD 0 := by decide +kernel
set_option maxRecDepth 100000 in
theorem bcl_ok : ∀ q ∈ bcl, lw_tbl[q.2.2.2]? = some (.classLink (bow q.1) q.2.1 (cnm q.2.2.1)) := by decide +kernel
theorem bcl_b : ∀ q ∈ bcl, q.2.2.1 ≤ 8 := by decide +kernel
set_option maxRecDepth 100000 in
theorem bml_ok : ∀ q ∈ bml, lw_tbl[q.2.2.2]? = some (.methodLink (bow q.1) q.2.1 (byM q.2.2.1)) := by decide +kernel
set_option maxRecDepth 100000 in
theorem bob_ok : ∀ q ∈ bob, lw_tbl[q.2.2]? = some (.methodLink (bow q.1) q.2.1 Lib.objectInit) := by decide +kernel
set_option maxRecDepth 100000 in
theorem obj_ok : Cond.instanceMethod Lib.objectInit ∈ TBG ∧ Cond.code Lib.objectInit ⟨#[0xb1]⟩ 1 none ∈ TBG := ⟨mem_tbg (i := 124) (by decide +kernel) rfl, mem_tbg (i := 125) rfl rfl⟩
set_option maxRecDepth 100000 in
theorem arr_ok : lw_tbl[178]? = some (.arrayClass .int) ∧ lw_tbl[352]? = some (.arrayClass .long) ∧ lw_tbl[1106]? = some (.arrayClass .boolean) ∧ lw_tbl[1105]? = some (.arrayClass .char) := by decide +kernel
def ipl (ci : Nat) : Nat × Nat := (nth [(296, 105), (220, 103), (134, 102), (261, 104), (334, 107), (127, 101), (309, 106), (119, 100), (1024, 108)] ci).getD (0, 0)
set_option maxRecDepth 100000 in
theorem inst_p : ∀ ci, ci < 9 → lw_tbl[(ipl ci).1]? = some (.instantiable (cnm ci) (((nth vwCl ci).map fun r => r.2.2).getD 0)) ∧ lw_tbl[(ipl ci).2]? = some (.initialized (cnm ci)) := by decide +kernel
/-- the fields' types: int, boolean or a reference -/
def ftyB : Option FieldType → Bool
  | some .int => true
  | some .boolean => true
  | some (.object _) => true
  | some (.array _) => true
  | none => true
  | _ => false
theorem fty_f : ∀ ci, ci < 9 → ∀ k, k < 24 → k < ((nth vwCl ci).map fun r => r.2.2).getD 0 → ftyB (parseFieldDescriptor (TTc ci k).2.2.1) = true := by decide +kernel
theorem bnl_1 : ∀ b, b < 9 → 1 ≤ bnl b := by decide +kernel
theorem n24 : ∀ ci, ci < 9 → ((nth vwCl ci).map fun r => r.2.2).getD 0 ≤ 24 := by decide +kernel
def kb_push (pc : Nat) (x : Int32) (nx : Nat) : Instr → Nat → Bool
  | .iconst z, n => decide (x = Int32.ofInt z ∧ n = 1 ∧ nx = pc + 1)
  | .bipush z, n => decide (x = (Int8.ofInt z).toInt32 ∧ n = 2 ∧ nx = pc + 2)
  | .sipush z, n => decide (x = (Int16.ofInt z).toInt32 ∧ n = 3 ∧ nx = pc + 3)
  | _, _ => false
def kb_newa (pc a nx : Nat) : Instr → Nat → Bool
  | .newarray .int, n => decide (a = 1 ∧ n = 2 ∧ nx = pc + 2)
  | .newarray .long, n => decide (a = 2 ∧ n = 2 ∧ nx = pc + 2)
  | .newarray .boolean, n => decide (a = 3 ∧ n = 2 ∧ nx = pc + 2)
  | .newarray .char, n => decide (a = 4 ∧ n = 2 ∧ nx = pc + 2)
  | _, _ => false
def kb_anew (m pc a nx : Nat) : Instr → Nat → Bool
  | .anewarray ix, n => decide (n = 3 ∧ nx = pc + 3) && bcl.any (fun q => decide (q.1 = m ∧ q.2.1 = ix ∧ (q.2.2.1 = 2 ∧ a = 5 ∨ q.2.2.1 = 4 ∧ a = 6)))
  | _, _ => false
def kb_new (m pc a nx : Nat) : Instr → Nat → Bool
  | .new ix, n => decide (n = 3 ∧ nx = pc + 3) && bcl.any (fun q => decide (q.1 = m ∧ q.2.1 = ix ∧ q.2.2.1 = a))
  | _, _ => false
def kb_get (m pc a b nx : Nat) : Instr → Nat → Bool
  | .getfield ix, n => decide (n = 3 ∧ nx = pc + 3) && bfl.any (fun q => decide (q.1 = m ∧ q.2.1 = ix ∧ q.2.2.1 = a ∧ q.2.2.2.1 = b))
  | _, _ => false
def kb_put (m pc a b nx : Nat) : Instr → Nat → Bool
  | .putfield ix, n => decide (n = 3 ∧ nx = pc + 3 ∧ ((TTc a b).2.2.2 = true → m < 9 ∧ (TTc a b).1 = bow m)) && bfl.any (fun q => decide (q.1 = m ∧ q.2.1 = ix ∧ q.2.2.1 = a ∧ q.2.2.2.1 = b))
  | _, _ => false
def kb_xast (pc a nx : Nat) : Instr → Nat → Bool
  | .iastore, n => decide (n = 1 ∧ nx = pc + 1 ∧ a = 1)
  | .castore, n => decide (n = 1 ∧ nx = pc + 1 ∧ a = 4)
  | _, _ => false
def kb_aast (pc nx : Nat) : Instr → Nat → Bool
  | .aastore, n => decide (n = 1 ∧ nx = pc + 1)
  | _, _ => false
def kb_ge (pc b nx : Nat) : Instr → Nat → Bool
  | .if_icmp .ge off, n => decide (n = 3 ∧ nx = pc + 3 ∧ (pc : Int) + off = (b : Int))
  | _, _ => false
def kb_ret (m a : Nat) : Instr → Nat → Bool
  | .return_, n => decide (n = 1 ∧ a = 0 ∧ m < 9)
  | .areturn, n => decide (n = 1 ∧ a = 1 ∧ m = 9)
  | _, _ => false
def kb_obj (m pc nx : Nat) : Instr → Nat → Bool
  | .invokespecial ix, n => decide (n = 3 ∧ nx = pc + 3) && bob.any (fun q => decide (q.1 = m ∧ q.2.1 = ix))
  | _, _ => false
def kb_ini (m pc a b nx : Nat) : Instr → Nat → Bool
  | .invokespecial ix, n => decide (n = 3 ∧ nx = pc + 3) && (bif Nat.beq a 0 then bml.any (fun q => decide (q.1 = m ∧ q.2.1 = ix ∧ q.2.2.1 = b)) else bnst.any (fun q => decide (q.1 = m ∧ q.2.1 = ix ∧ q.2.2 = b)))
  | _, _ => false
def kb_fre (m pc b nx : Nat) : Instr → Nat → Bool
  | .invokestatic ix, n => decide (n = 3 ∧ nx = pc + 3 ∧ b = 9) && bml.any (fun q => decide (q.1 = m ∧ q.2.1 = ix ∧ q.2.2.1 = b))
  | _, _ => false
def bchI (m pc : Nat) (i : Instr) (n : Nat) : IN → Bool
  | (op, a, b, v, nx) =>
    if op = 0 then k_load pc a b nx i n
    else if op = 1 then (match v with
      | .inl x => kb_push pc x nx i n
      | _ => false)
    else if op = 2 then kb_newa pc a nx i n
    else if op = 3 then kb_anew m pc a nx i n
    else if op = 4 then kb_new m pc a nx i n
    else if op = 5 then k_dup pc nx i n
    else if op = 6 then kb_put m pc a b nx i n
    else if op = 7 then kb_get m pc a b nx i n
    else if op = 8 then kb_xast pc a nx i n
    else if op = 9 then kb_aast pc nx i n
    else if op = 10 then k_sto1 pc a nx i n
    else if op = 11 then k_stoA pc a nx i n
    else if op = 12 then k_iinc pc a v nx i n
    else if op = 13 then kb_ge pc b nx i n
    else if op = 14 then k_goto pc b i n
    else if op = 15 then kb_ret m a i n
    else if op = 16 then kb_obj m pc nx i n
    else if op = 17 then kb_ini m pc a b nx i n
    else if op = 18 then kb_fre m pc b nx i n
    else false
def bchk (m pc : Nat) (e : IN) : Bool := match decode (bbyt m) pc with
  | .ok (i, n) => bchI m pc i n e
  | .error _ => false
def bokM (m : Nat) : Bool := (bicode m).all fun c => c.all fun q => bchk m q.1 q.2
theorem bins_cases (m pc : Nat) : (bins m pc).1 = 99 ∨ ∃ c ∈ bicode m, (pc, bins m pc) ∈ c := by
  unfold bins
  cases h : nth (bicode m) (pc / 32) with
  | none => exact Or.inl rfl
  | some c =>
    cases h2 : lkp c pc with
    | none => simp only [h2]; exact Or.inl trivial
    | some e => simp only [h2]; exact Or.inr ⟨c, nth_mem h, lkp_mem h2⟩
theorem bins_ok {m pc : Nat} (hm : bokM m = true) (h : (bins m pc).1 ≠ 99) : bchk m pc (bins m pc) = true := by
  rcases bins_cases m pc with h1 | ⟨c, hc, hm2⟩
  · exact absurd h1 h
  · have h2 : ∀ c ∈ bicode m, (c.all fun q => bchk m q.1 q.2) = true := List.all_eq_true.mp hm
    have h3 : ∀ q ∈ c, bchk m q.1 q.2 = true := List.all_eq_true.mp (h2 c hc)
    exact h3 (pc, bins m pc) hm2
set_option maxRecDepth 100000 in
theorem bok_0 : bokM 0 = true := by decide +kernel
set_option maxRecDepth 100000 in
theorem bok_1 : bokM 1 = true := by decide +kernel
set_option maxRecDepth 100000 in
theorem bok_2 : bokM 2 = true := by decide +kernel
set_option maxRecDepth 100000 in
theorem bok_3 : bokM 3 = true := by decide +kernel
set_option maxRecDepth 100000 in
theorem bok_4 : bokM 4 = true := by decide +kernel
set_option maxRecDepth 100000 in
theorem bok_5 : bokM 5 = true := by decide +kernel
set_option maxRecDepth 100000 in
theorem bok_6 : bokM 6 = true := by decide +kernel
set_option maxRecDepth 100000 in
theorem bok_7 : bokM 7 = true := by decide +kernel
set_option maxRecDepth 100000 in
theorem bok_8 : bokM 8 = true := by decide +kernel
set_option maxRecDepth 100000 in
theorem bok_9 : bokM 9 = true := by decide +kernel
set_option maxRecDepth 100000 in
theorem bok_10 : bokM 10 = true := by decide +kernel
theorem bok_all (m : Nat) (h : m < 11) : bokM m = true := by
  rcases Nat.lt_or_ge m 5 with h1 | h1
  · rcases Nat.lt_or_ge m 2 with h2 | h2
    · rcases Nat.lt_or_ge m 1 with h3 | h3
      · obtain rfl : m = 0 := by omega
        exact bok_0
      · obtain rfl : m = 1 := by omega
        exact bok_1
    · rcases Nat.lt_or_ge m 3 with h3 | h3
      · obtain rfl : m = 2 := by omega
        exact bok_2
      · rcases Nat.lt_or_ge m 4 with h4 | h4
        · obtain rfl : m = 3 := by omega
          exact bok_3
        · obtain rfl : m = 4 := by omega
          exact bok_4
  · rcases Nat.lt_or_ge m 8 with h2 | h2
    · rcases Nat.lt_or_ge m 6 with h3 | h3
      · obtain rfl : m = 5 := by omega
        exact bok_5
      · rcases Nat.lt_or_ge m 7 with h4 | h4
        · obtain rfl : m = 6 := by omega
          exact bok_6
        · obtain rfl : m = 7 := by omega
          exact bok_7
    · rcases Nat.lt_or_ge m 9 with h3 | h3
      · obtain rfl : m = 8 := by omega
        exact bok_8
      · rcases Nat.lt_or_ge m 10 with h4 | h4
        · obtain rfl : m = 9 := by omega
          exact bok_9
        · obtain rfl : m = 10 := by omega
          exact bok_10
def BOK (b : Nat) (rt : Option FieldType) : Prop := Cond.code (byM b) (bbyt b) (bnl b) rt ∈ lw_tbl ∧ Cond.initialized (byM b).cls ∈ lw_tbl ∧ ((byM b).cls ≠ "java/lang/invoke/MethodHandle" ∧ (byM b).cls ≠ "java/lang/invoke/VarHandle" ∧ (parseMethodDescriptor (byM b).desc).map (fun d => d.parameters.length) = some 0) ∧ plainName (byM b).cls = true ∧ bnl b ≤ 40 ∧ (byM b).cls = bow b
theorem bok_of {b : Nat} {rt : Option FieldType} (c i : Nat) (h1 : lw_tbl[c]? = some (.code (byM b) (bbyt b) (bnl b) rt)) (h2 : lw_tbl[i]? = some (.initialized (byM b).cls) ∧ ((byM b).cls ≠ "java/lang/invoke/MethodHandle" ∧ (byM b).cls ≠ "java/lang/invoke/VarHandle" ∧ (parseMethodDescriptor (byM b).desc).map (fun d => d.parameters.length) = some 0) ∧ plainName (byM b).cls = true ∧ bnl b ≤ 40 ∧ (byM b).cls = bow b) : BOK b rt := ⟨mem_tbl h1, mem_tbl h2.1, h2.2⟩
set_option maxRecDepth 100000 in
theorem bk_0 : BOK 0 (none) := bok_of 299 105 rfl (by decide +kernel)
set_option maxRecDepth 100000 in
theorem bi_0 : Cond.instanceMethod (byM 0) ∈ lw_tbl ∧ (byM 0).name = "<init>" := ⟨mem_tbl (i := 298) (by decide +kernel), by decide +kernel⟩
set_option maxRecDepth 100000 in
theorem bk_1 : BOK 1 (none) := bok_of 223 103 rfl (by decide +kernel)
set_option maxRecDepth 100000 in
theorem bi_1 : Cond.instanceMethod (byM 1) ∈ lw_tbl ∧ (byM 1).name = "<init>" := ⟨mem_tbl (i := 222) (by decide +kernel), by decide +kernel⟩
set_option maxRecDepth 100000 in
theorem bk_2 : BOK 2 (none) := bok_of 137 102 rfl (by decide +kernel)
set_option maxRecDepth 100000 in
theorem bi_2 : Cond.instanceMethod (byM 2) ∈ lw_tbl ∧ (byM 2).name = "<init>" := ⟨mem_tbl (i := 136) (by decide +kernel), by decide +kernel⟩
set_option maxRecDepth 100000 in
theorem bk_3 : BOK 3 (none) := bok_of 264 104 rfl (by decide +kernel)
set_option maxRecDepth 100000 in
theorem bi_3 : Cond.instanceMethod (byM 3) ∈ lw_tbl ∧ (byM 3).name = "<init>" := ⟨mem_tbl (i := 263) (by decide +kernel), by decide +kernel⟩
set_option maxRecDepth 100000 in
theorem bk_4 : BOK 4 (none) := bok_of 337 107 rfl (by decide +kernel)
set_option maxRecDepth 100000 in
theorem bi_4 : Cond.instanceMethod (byM 4) ∈ lw_tbl ∧ (byM 4).name = "<init>" := ⟨mem_tbl (i := 336) (by decide +kernel), by decide +kernel⟩
set_option maxRecDepth 100000 in
theorem bk_5 : BOK 5 (none) := bok_of 130 101 rfl (by decide +kernel)
set_option maxRecDepth 100000 in
theorem bi_5 : Cond.instanceMethod (byM 5) ∈ lw_tbl ∧ (byM 5).name = "<init>" := ⟨mem_tbl (i := 129) (by decide +kernel), by decide +kernel⟩
set_option maxRecDepth 100000 in
theorem bk_6 : BOK 6 (none) := bok_of 312 106 rfl (by decide +kernel)
set_option maxRecDepth 100000 in
theorem bi_6 : Cond.instanceMethod (byM 6) ∈ lw_tbl ∧ (byM 6).name = "<init>" := ⟨mem_tbl (i := 311) (by decide +kernel), by decide +kernel⟩
set_option maxRecDepth 100000 in
theorem bk_7 : BOK 7 (none) := bok_of 122 100 rfl (by decide +kernel)
set_option maxRecDepth 100000 in
theorem bi_7 : Cond.instanceMethod (byM 7) ∈ lw_tbl ∧ (byM 7).name = "<init>" := ⟨mem_tbl (i := 121) (by decide +kernel), by decide +kernel⟩
set_option maxRecDepth 100000 in
theorem bk_8 : BOK 8 (none) := bok_of 1027 108 rfl (by decide +kernel)
set_option maxRecDepth 100000 in
theorem bi_8 : Cond.instanceMethod (byM 8) ∈ lw_tbl ∧ (byM 8).name = "<init>" := ⟨mem_tbl (i := 1026) (by decide +kernel), by decide +kernel⟩
set_option maxRecDepth 100000 in
theorem bk_9 : BOK 9 (some (.array .int)) := bok_of 1031 108 rfl (by decide +kernel)
set_option maxRecDepth 100000 in
theorem bs_9 : Cond.static (byM 9) ∈ lw_tbl := mem_tbl (i := 1030) (by decide +kernel)
theorem bk_all (m : Nat) (h : m < 9) : BOK m none ∧ Cond.instanceMethod (byM m) ∈ lw_tbl ∧ (byM m).name = "<init>" := by
  rcases Nat.lt_or_ge m 4 with h1 | h1
  · rcases Nat.lt_or_ge m 2 with h2 | h2
    · rcases Nat.lt_or_ge m 1 with h3 | h3
      · obtain rfl : m = 0 := by omega
        exact ⟨bk_0, bi_0⟩
      · obtain rfl : m = 1 := by omega
        exact ⟨bk_1, bi_1⟩
    · rcases Nat.lt_or_ge m 3 with h3 | h3
      · obtain rfl : m = 2 := by omega
        exact ⟨bk_2, bi_2⟩
      · obtain rfl : m = 3 := by omega
        exact ⟨bk_3, bi_3⟩
  · rcases Nat.lt_or_ge m 6 with h2 | h2
    · rcases Nat.lt_or_ge m 5 with h3 | h3
      · obtain rfl : m = 4 := by omega
        exact ⟨bk_4, bi_4⟩
      · obtain rfl : m = 5 := by omega
        exact ⟨bk_5, bi_5⟩
    · rcases Nat.lt_or_ge m 7 with h3 | h3
      · obtain rfl : m = 6 := by omega
        exact ⟨bk_6, bi_6⟩
      · rcases Nat.lt_or_ge m 8 with h4 | h4
        · obtain rfl : m = 7 := by omega
          exact ⟨bk_7, bi_7⟩
        · obtain rfl : m = 8 := by omega
          exact ⟨bk_8, bi_8⟩
set_option maxRecDepth 100000 in
theorem born : (bgo 2000 4 10 0 bL0 [] [] 0 0).isSome = true := by decide +kernel
