/-! Links by class, methods: by a program of mine. -/
def zOwn (o : Nat) : String := match o with
  | 0 => "NumberComes"
  | 1 => "NumberComes$State"
  | 2 => "NumberComes$Reader"
  | 3 => "NumberComes$Text"
  | 4 => "NumberComes$Machine"
  | 5 => "NumberComes$Voices"
  | 6 => "NumberComes$Meetings"
  | 7 => "NumberComes$Turns"
  | 8 => "NumberComes$Gifts"
  | 9 => "NumberComes$Searches"
  | 10 => "NumberComes$Couples"
  | 11 => "NumberComes$Cover"
  | 12 => "NumberComesModel"
  | 13 => "NumberComesLaw"
  | 14 => "java/lang/Math"
  | 15 => "java/lang/Integer"
  | 16 => "java/lang/Long"
  | 17 => "java/util/Arrays"
  | 18 => "java/lang/String"
  | 19 => "java/lang/StringLatin1"
  | 20 => "jdk/internal/util/Preconditions"
  | _ => ""
/-- index, class, field, where the word stands -/
def zFx (o : Nat) : List (Nat × Nat × Nat × (Nat × Nat)) := match o with
  | 0 => [(290, 1, 0, (1, 44)), (115, 1, 1, (1, 47)), (119, 1, 2, (1, 53)), (368, 1, 3, (1, 58)), (125, 1, 4, (1, 62)), (129, 1, 5, (1, 67)), (148, 1, 6, (1, 71)), (160, 1, 7, (1, 74)), (219, 1, 8, (1, 76)), (222, 1, 9, (1, 78)), (226, 1, 10, (1, 80)), (246, 1, 11, (1, 83)), (249, 1, 12, (1, 86)), (252, 1, 13, (1, 89)), (255, 1, 14, (1, 92)), (258, 1, 15, (1, 95)), (261, 1, 16, (1, 98)), (306, 1, 17, (1, 101)), (316, 1, 18, (1, 104)), (145, 2, 1, (1, 159)), (154, 2, 2, (1, 161)), (157, 2, 3, (1, 163)), (349, 3, 0, (1, 199)), (352, 3, 4, (1, 209)), (355, 3, 5, (1, 213)), (358, 3, 6, (1, 217)), (243, 7, 0, (2, 81)), (274, 8, 0, (2, 104)), (287, 8, 1, (2, 106)), (277, 8, 2, (2, 108)), (280, 8, 3, (2, 110)), (340, 10, 0, (2, 167)), (343, 10, 1, (2, 169)), (10, 0, 0, (2, 200)), (16, 0, 1, (2, 201)), (21, 0, 2, (2, 202)), (28, 0, 3, (2, 203)), (41, 0, 4, (2, 204)), (50, 0, 5, (2, 205)), (59, 0, 6, (2, 206)), (68, 0, 7, (2, 207)), (77, 0, 8, (2, 208)), (86, 0, 9, (2, 209)), (93, 0, 10, (2, 210))]
  | 1 => [(50, 1, 0, (1, 38)), (9, 1, 1, (1, 45)), (15, 1, 2, (1, 52)), (18, 1, 3, (1, 57)), (59, 1, 4, (1, 60)), (21, 1, 5, (1, 64)), (62, 1, 6, (1, 70)), (25, 1, 7, (1, 72)), (65, 1, 8, (1, 75)), (28, 1, 9, (1, 77)), (32, 1, 10, (1, 79)), (68, 1, 11, (1, 81)), (35, 1, 12, (1, 84)), (71, 1, 13, (1, 88)), (38, 1, 14, (1, 90)), (41, 1, 15, (1, 93)), (44, 1, 16, (1, 96)), (74, 1, 17, (1, 99)), (47, 1, 18, (1, 102)), (77, 1, 19, (1, 105))]
  | 2 => [(9, 2, 0, (1, 157)), (22, 2, 1, (1, 158)), (15, 2, 2, (1, 160)), (19, 2, 3, (1, 162)), (25, 2, 4, (1, 164)), (64, 2, 5, (1, 165)), (40, 2, 6, (1, 166)), (146, 2, 7, (1, 167)), (34, 2, 8, (1, 168)), (96, 2, 9, (1, 169)), (54, 3, 2, (1, 204)), (68, 3, 3, (1, 206))]
  | 3 => [(24, 3, 0, (1, 196)), (28, 3, 1, (1, 200)), (31, 3, 2, (1, 202)), (34, 3, 3, (1, 205)), (11, 3, 4, (1, 207)), (15, 3, 5, (1, 210)), (18, 3, 6, (1, 214)), (21, 3, 7, (1, 218))]
  | 4 => [(24, 3, 7, (1, 219)), (11, 4, 0, (2, 3)), (15, 4, 1, (2, 6))]
  | 5 => [(38, 1, 0, (1, 40)), (66, 1, 1, (1, 50)), (69, 1, 2, (1, 55)), (88, 1, 4, (1, 63)), (54, 1, 5, (1, 66)), (36, 1, 6, (1, 69)), (30, 1, 7, (1, 73)), (72, 3, 0, (1, 198)), (49, 3, 1, (1, 201)), (75, 3, 4, (1, 208)), (78, 3, 5, (1, 212)), (81, 3, 6, (1, 216)), (61, 4, 0, (2, 5)), (18, 5, 0, (2, 18)), (22, 5, 1, (2, 19)), (26, 5, 2, (2, 20)), (9, 5, 3, (2, 21)), (15, 5, 4, (2, 22)), (121, 5, 5, (2, 23)), (118, 5, 6, (2, 24)), (109, 5, 7, (2, 25)), (102, 5, 8, (2, 26))]
  | 6 => [(77, 1, 0, (1, 42)), (91, 1, 1, (1, 51)), (87, 1, 2, (1, 54)), (29, 1, 4, (1, 59)), (106, 1, 5, (1, 68)), (15, 6, 0, (2, 52)), (19, 6, 1, (2, 53)), (70, 6, 2, (2, 54)), (62, 6, 3, (2, 55)), (54, 6, 4, (2, 56)), (9, 6, 5, (2, 57)), (128, 6, 6, (2, 58))]
  | 7 => [(9, 7, 0, (2, 80)), (22, 7, 1, (2, 82)), (15, 7, 2, (2, 83)), (19, 7, 3, (2, 84)), (73, 7, 4, (2, 85))]
  | 8 => [(135, 1, 0, (1, 43)), (94, 1, 1, (1, 49)), (104, 1, 11, (1, 82)), (115, 1, 12, (1, 85)), (31, 1, 13, (1, 87)), (41, 1, 14, (1, 91)), (67, 1, 15, (1, 94)), (44, 1, 16, (1, 97)), (64, 3, 0, (1, 197)), (59, 3, 2, (1, 203)), (75, 3, 5, (1, 211)), (78, 3, 6, (1, 215)), (70, 4, 0, (2, 4)), (112, 8, 0, (2, 103)), (132, 8, 1, (2, 105)), (126, 8, 2, (2, 107)), (129, 8, 3, (2, 109)), (15, 8, 4, (2, 111)), (19, 8, 5, (2, 112)), (23, 8, 6, (2, 113)), (27, 8, 7, (2, 114)), (9, 8, 8, (2, 115))]
  | 9 => [(35, 1, 0, (1, 39)), (45, 1, 1, (1, 46)), (96, 1, 2, (1, 56)), (80, 1, 17, (1, 100)), (83, 1, 18, (1, 103)), (25, 9, 0, (2, 141)), (48, 9, 1, (2, 142)), (11, 9, 2, (2, 143)), (15, 9, 3, (2, 144)), (18, 9, 4, (2, 145)), (22, 9, 5, (2, 146))]
  | 10 => [(35, 10, 0, (2, 166)), (9, 10, 1, (2, 168)), (21, 10, 2, (2, 170)), (15, 10, 3, (2, 171)), (18, 10, 4, (2, 172))]
  | 11 => [(67, 1, 0, (1, 41)), (70, 1, 1, (1, 48)), (54, 1, 4, (1, 61)), (60, 1, 5, (1, 65)), (15, 11, 0, (2, 190)), (19, 11, 1, (2, 191)), (11, 11, 2, (2, 192))]
  | 12 => [(7, 12, 0, (6, 116)), (13, 12, 1, (6, 117)), (16, 12, 2, (6, 118)), (20, 12, 3, (6, 119)), (23, 12, 4, (6, 120)), (26, 12, 5, (6, 121)), (121, 12, 6, (6, 122)), (29, 12, 7, (6, 123)), (33, 12, 8, (6, 124)), (128, 12, 9, (6, 125)), (135, 12, 10, (6, 126)), (138, 12, 11, (6, 127)), (144, 12, 12, (6, 128)), (151, 12, 13, (6, 129)), (163, 12, 14, (6, 130)), (166, 12, 16, (6, 131)), (36, 12, 18, (6, 132)), (169, 12, 19, (6, 133)), (176, 12, 20, (6, 134)), (172, 12, 21, (6, 135)), (187, 12, 22, (6, 136)), (248, 12, 23, (6, 137)), (39, 12, 24, (6, 138)), (42, 12, 25, (6, 139)), (45, 12, 26, (6, 140)), (49, 12, 27, (6, 141)), (52, 12, 28, (6, 142)), (55, 12, 29, (6, 143)), (58, 12, 30, (6, 144)), (324, 12, 31, (6, 145)), (319, 12, 32, (6, 146)), (61, 12, 33, (6, 147)), (64, 12, 34, (6, 148)), (67, 12, 35, (6, 149)), (70, 12, 36, (6, 150)), (73, 12, 37, (6, 151)), (76, 12, 38, (6, 152)), (79, 12, 39, (6, 153)), (82, 12, 40, (6, 154)), (85, 12, 41, (6, 155)), (88, 12, 42, (6, 156)), (91, 12, 43, (6, 157)), (94, 12, 44, (6, 158)), (97, 12, 45, (6, 159))]
  | _ => []
/-- index, method, whether by the nest, where the word stands -/
def zMx (o : Nat) : List (Nat × Nat × Nat × (Nat × Nat)) := match o with
  | 0 => [(97, 14, 0, (2, 238)), (101, 17, 0, (3, 8)), (105, 27, 0, (3, 47)), (109, 15, 0, (3, 51)), (112, 16, 0, (3, 52)), (122, 29, 0, (3, 57)), (132, 31, 0, (3, 64)), (135, 33, 0, (3, 73)), (139, 36, 0, (3, 86)), (142, 37, 0, (3, 90)), (150, 40, 0, (3, 102)), (163, 92, 0, (4, 85)), (167, 93, 0, (4, 89)), (171, 97, 0, (4, 105)), (176, 98, 0, (4, 110)), (201, 103, 0, (4, 129)), (180, 109, 0, (4, 197)), (184, 120, 0, (4, 202)), (188, 121, 0, (4, 205)), (193, 128, 0, (4, 236)), (197, 132, 0, (5, 13)), (206, 34, 0, (5, 21)), (210, 134, 0, (5, 22)), (213, 136, 0, (5, 30)), (216, 102, 0, (5, 34)), (229, 139, 0, (5, 43)), (233, 142, 0, (5, 56)), (378, 104, 0, (5, 59)), (236, 143, 0, (5, 60)), (239, 150, 0, (5, 90)), (265, 155, 0, (5, 111)), (268, 156, 0, (5, 124)), (271, 158, 0, (5, 129)), (283, 162, 0, (5, 149)), (293, 164, 0, (5, 157)), (381, 111, 0, (5, 168)), (296, 172, 0, (5, 194)), (299, 173, 0, (5, 200)), (302, 177, 0, (5, 224)), (309, 179, 0, (5, 233)), (313, 181, 0, (6, 1)), (319, 182, 0, (6, 13)), (322, 186, 0, (6, 22)), (326, 188, 0, (6, 30)), (330, 189, 0, (6, 34)), (333, 191, 0, (6, 42)), (337, 195, 0, (6, 58)), (346, 198, 0, (6, 76)), (361, 199, 0, (6, 80)), (365, 201, 0, (6, 90)), (371, 204, 0, (6, 103))]
  | 1 => [(84, 15, 1, (3, 2)), (87, 16, 1, (3, 5)), (90, 34, 0, (3, 77)), (80, 27, 0, (3, 81)), (96, 14, 0, (6, 84)), (100, 33, 0, (6, 85))]
  | 2 => [(29, 41, 0, (3, 106)), (37, 42, 0, (3, 110)), (157, 43, 0, (3, 114)), (160, 44, 0, (3, 118)), (163, 45, 0, (3, 121)), (166, 23, 0, (3, 124)), (43, 66, 0, (3, 208)), (47, 67, 0, (3, 212)), (82, 68, 0, (3, 217)), (51, 75, 0, (4, 5)), (57, 76, 0, (4, 9)), (92, 77, 0, (4, 13)), (76, 78, 0, (4, 18)), (61, 79, 0, (4, 22)), (69, 80, 0, (4, 26)), (119, 81, 0, (4, 30)), (122, 82, 0, (4, 34)), (125, 83, 0, (4, 38)), (128, 84, 0, (4, 49)), (108, 85, 0, (4, 53)), (72, 86, 0, (4, 57)), (101, 87, 0, (4, 61)), (116, 88, 0, (4, 66))]
  | 4 => [(18, 21, 0, (3, 24)), (29, 22, 0, (3, 27)), (35, 23, 0, (3, 32)), (42, 24, 0, (3, 37)), (45, 25, 0, (3, 40))]
  | 5 => [(45, 18, 0, (3, 12)), (57, 19, 0, (3, 16)), (84, 20, 0, (3, 20)), (41, 17, 0, (3, 68)), (91, 94, 0, (4, 93)), (95, 95, 0, (4, 97)), (105, 129, 0, (5, 0)), (112, 23, 0, (5, 4)), (125, 21, 0, (5, 5)), (128, 130, 0, (5, 6)), (134, 115, 0, (5, 12)), (99, 93, 0, (5, 47))]
  | 6 => [(23, 99, 0, (4, 114)), (35, 100, 0, (4, 118)), (141, 101, 0, (4, 122)), (156, 102, 1, (4, 126)), (80, 104, 1, (4, 135)), (144, 105, 0, (4, 139)), (147, 106, 0, (4, 143)), (150, 107, 0, (4, 147)), (153, 21, 0, (4, 151)), (39, 108, 0, (4, 154)), (46, 109, 0, (4, 158)), (84, 110, 0, (4, 162)), (94, 111, 1, (4, 166)), (98, 112, 0, (4, 169)), (50, 113, 0, (4, 173)), (111, 114, 0, (4, 177)), (115, 115, 0, (4, 181)), (120, 116, 0, (4, 184)), (58, 117, 0, (4, 188)), (125, 25, 0, (4, 192)), (42, 122, 0, (4, 209)), (66, 123, 0, (4, 213)), (73, 124, 0, (4, 217)), (131, 125, 0, (4, 221)), (135, 126, 0, (4, 225))]
  | 7 => [(26, 144, 0, (5, 64)), (54, 145, 0, (5, 68)), (60, 128, 0, (5, 71)), (66, 132, 0, (5, 72)), (30, 146, 0, (5, 73)), (34, 147, 0, (5, 77)), (70, 148, 0, (5, 81)), (44, 104, 1, (5, 84)), (77, 149, 0, (5, 85)), (38, 103, 0, (5, 89)), (48, 151, 0, (5, 94))]
  | 8 => [(37, 156, 0, (5, 115)), (47, 121, 0, (5, 119)), (53, 18, 0, (5, 120)), (81, 20, 0, (5, 121)), (85, 23, 0, (5, 122)), (91, 21, 0, (5, 123)), (101, 102, 1, (5, 133)), (107, 155, 0, (5, 134)), (118, 159, 0, (5, 136)), (97, 17, 0, (5, 140)), (122, 160, 0, (5, 141))]
  | 9 => [(29, 103, 0, (5, 198)), (41, 104, 1, (5, 199)), (51, 174, 0, (5, 204)), (63, 111, 1, (5, 208)), (67, 166, 1, (5, 209)), (55, 329, 0, (5, 210)), (59, 175, 0, (5, 214)), (70, 176, 0, (5, 218)), (75, 21, 0, (5, 223)), (86, 182, 0, (6, 5)), (89, 192, 0, (6, 46)), (92, 193, 0, (6, 50))]
  | 10 => [(25, 104, 1, (6, 62)), (29, 121, 0, (6, 63)), (39, 196, 0, (6, 64)), (49, 102, 1, (6, 71))]
  | 11 => [(23, 165, 0, (5, 161)), (63, 166, 1, (5, 165)), (27, 145, 0, (5, 169)), (35, 128, 0, (5, 171)), (41, 132, 0, (5, 172)), (44, 167, 0, (5, 173)), (48, 168, 0, (5, 177)), (74, 169, 0, (5, 181)), (51, 170, 0, (5, 185)), (78, 103, 0, (5, 189))]
  | 12 => [(100, 206, 0, (6, 113)), (110, 208, 0, (7, 18)), (104, 209, 0, (7, 21)), (114, 211, 0, (7, 28)), (118, 213, 0, (7, 36)), (124, 217, 0, (7, 51)), (261, 220, 0, (7, 63)), (190, 221, 0, (7, 67)), (131, 222, 0, (7, 71)), (141, 223, 0, (7, 75)), (148, 224, 0, (7, 79)), (258, 225, 0, (7, 82)), (245, 226, 0, (7, 86)), (237, 227, 0, (7, 90)), (155, 228, 0, (7, 93)), (222, 229, 0, (7, 96)), (159, 230, 0, (7, 100)), (183, 231, 0, (7, 103)), (251, 232, 0, (7, 106)), (241, 233, 0, (7, 110)), (226, 234, 0, (7, 114)), (213, 235, 0, (7, 118)), (206, 236, 0, (7, 122)), (216, 237, 0, (7, 126)), (210, 238, 0, (7, 130)), (179, 239, 0, (7, 134)), (203, 240, 0, (7, 138)), (193, 241, 0, (7, 142)), (219, 242, 0, (7, 146)), (196, 243, 0, (7, 150)), (200, 244, 0, (7, 154)), (255, 245, 0, (7, 158)), (232, 246, 0, (7, 162)), (229, 247, 0, (7, 166)), (264, 207, 0, (7, 183)), (267, 215, 0, (7, 184)), (313, 252, 0, (7, 189)), (316, 253, 0, (7, 193)), (287, 254, 0, (7, 197)), (290, 255, 0, (7, 201)), (294, 256, 0, (7, 205)), (297, 257, 0, (7, 209)), (300, 258, 0, (7, 213)), (279, 259, 0, (7, 217)), (275, 260, 0, (7, 220)), (283, 261, 0, (7, 225)), (307, 262, 0, (7, 228)), (303, 263, 0, (7, 232)), (352, 265, 0, (8, 0)), (355, 266, 0, (8, 5)), (342, 267, 0, (8, 9)), (327, 268, 0, (8, 13)), (345, 269, 0, (8, 16)), (310, 270, 0, (8, 20)), (359, 271, 0, (8, 24)), (334, 272, 0, (8, 28)), (362, 273, 0, (8, 33)), (365, 274, 0, (8, 37)), (337, 275, 0, (8, 41)), (331, 276, 0, (8, 46)), (368, 277, 0, (8, 49)), (371, 278, 0, (8, 53)), (378, 281, 0, (8, 65)), (382, 282, 0, (8, 68)), (374, 283, 0, (8, 72)), (385, 285, 0, (8, 80)), (391, 287, 0, (8, 89)), (397, 289, 0, (8, 98)), (407, 294, 0, (8, 117)), (411, 295, 0, (8, 120)), (400, 296, 0, (8, 124)), (403, 297, 0, (8, 127)), (422, 301, 0, (8, 143)), (418, 302, 0, (8, 147)), (425, 304, 0, (8, 157)), (430, 307, 0, (8, 169)), (433, 308, 0, (8, 174)), (439, 310, 0, (8, 182)), (436, 311, 0, (8, 186)), (443, 314, 0, (8, 199)), (446, 320, 0, (8, 223)), (449, 321, 0, (8, 227)), (455, 323, 0, (8, 235)), (452, 324, 0, (8, 239))]
  | 13 => [(13, 13, 0, (2, 234)), (18, 26, 0, (3, 43)), (23, 28, 0, (3, 53)), (28, 30, 0, (3, 60)), (32, 32, 0, (3, 69)), (37, 35, 0, (3, 82)), (42, 38, 0, (3, 94)), (47, 39, 0, (3, 98)), (52, 89, 0, (4, 73)), (56, 90, 0, (4, 77)), (62, 91, 0, (4, 81)), (67, 96, 0, (4, 101)), (72, 118, 0, (4, 193)), (76, 119, 0, (4, 198)), (81, 127, 0, (4, 231)), (86, 133, 0, (5, 17)), (91, 135, 0, (5, 26)), (96, 137, 0, (5, 35)), (101, 138, 0, (5, 39)), (105, 140, 0, (5, 48)), (109, 141, 0, (5, 52)), (114, 152, 0, (5, 98)), (118, 153, 0, (5, 102)), (123, 154, 0, (5, 106)), (127, 157, 0, (5, 125)), (131, 161, 0, (5, 145)), (135, 163, 0, (5, 153)), (139, 171, 0, (5, 190)), (143, 178, 0, (5, 228)), (148, 180, 0, (5, 237)), (152, 183, 0, (6, 9)), (156, 184, 0, (6, 14)), (160, 185, 0, (6, 18)), (164, 187, 0, (6, 26)), (169, 190, 0, (6, 38)), (173, 194, 0, (6, 54)), (178, 197, 0, (6, 72)), (182, 200, 0, (6, 86)), (186, 202, 0, (6, 95)), (190, 203, 0, (6, 99)), (17, 207, 0, (7, 14)), (22, 210, 0, (7, 24)), (27, 212, 0, (7, 32)), (31, 214, 0, (7, 39)), (36, 215, 0, (7, 43)), (41, 216, 0, (7, 47)), (46, 218, 0, (7, 55)), (51, 219, 0, (7, 59)), (55, 248, 0, (7, 171)), (59, 249, 0, (7, 175)), (181, 250, 0, (7, 179)), (66, 251, 0, (7, 185)), (71, 264, 0, (7, 236)), (75, 279, 0, (8, 57)), (80, 280, 0, (8, 61)), (85, 284, 0, (8, 76)), (90, 286, 0, (8, 84)), (95, 288, 0, (8, 93)), (100, 290, 0, (8, 101)), (104, 291, 0, (8, 105)), (108, 292, 0, (8, 109)), (113, 293, 0, (8, 113)), (117, 298, 0, (8, 130)), (122, 299, 0, (8, 134)), (126, 300, 0, (8, 138)), (130, 303, 0, (8, 153)), (134, 305, 0, (8, 161)), (138, 306, 0, (8, 165)), (142, 309, 0, (8, 178)), (147, 312, 0, (8, 190)), (151, 313, 0, (8, 195)), (155, 315, 0, (8, 203)), (159, 316, 0, (8, 207)), (163, 317, 0, (8, 211)), (168, 318, 0, (8, 215)), (172, 319, 0, (8, 219)), (177, 322, 0, (8, 231)), (185, 325, 0, (9, 3)), (189, 326, 0, (9, 7)), (193, 327, 0, (9, 11))]
  | 17 => [(13, 131, 0, (5, 9))]
  | 19 => [(92, 21, 0, (3, 154)), (38, 23, 0, (3, 155))]
  | _ => []
def zKi (o : Nat) : List (Nat × Int × (Nat × Nat)) := match o with
  | 0 => [(192, 100000, (4, 235)), (264, (-1000000), (5, 110)), (305, 999999, (5, 232))]
  | 4 => [(33, (-1000000), (3, 30)), (34, 1000000, (3, 31))]
  | 8 => [(111, (-1000000), (5, 135))]
  | 12 => [(147, 100000, (7, 78)), (421, (-1000000), (8, 142)), (442, 999999, (8, 194))]
  | 15 => [(265, 1431655765, (4, 132)), (266, 858993459, (4, 133)), (267, 252645135, (4, 134))]
  | _ => []
def zKl (o : Nat) : List (Nat × Int × (Nat × Nat)) := match o with
  | 0 => [(374, 1000000000000000, (4, 88)), (174, (-1), (4, 109)), (376, 100000000000000, (5, 33))]
  | 4 => [(38, (-1000000), (3, 35)), (40, 1000000, (3, 36))]
  | 6 => [(102, (-1), (4, 138)), (109, 1000000000000000, (4, 152)), (104, (-2), (4, 153)), (123, 1000000000000001, (4, 187))]
  | 7 => [(52, (-1), (5, 76))]
  | 9 => [(73, (-1), (5, 222))]
  | 11 => [(33, 10000, (5, 170))]
  | 12 => [(235, 28530, (7, 170)), (108, 1000000000000000, (7, 192)), (271, 1000000, (7, 223)), (273, (-1000000), (7, 224)), (350, (-1), (8, 4)), (348, (-2), (8, 23)), (340, 1000000000000001, (8, 32)), (322, 2000000000000000000, (8, 45)), (389, 100000, (8, 88)), (395, 100000000000000, (8, 97)), (414, (-9999), (8, 151)), (416, 9999, (8, 152)), (428, 5040, (8, 173))]
  | 13 => [(60, 4294967295, (9, 15))]
  | 16 => [(314, 6148914691236517205, (4, 228)), (316, 3689348814741910323, (4, 229)), (318, 1085102592571150095, (4, 230))]
  | _ => []
/-- a method: name, bytes, locals, what it returns, whether static, how many arguments, its class, where its words stand -/
abbrev zMI : Type := MethodName × ByteArray × Nat × Option FieldType × Bool × Nat × Nat × (Nat × Nat) × (Nat × Nat) × (Nat × Nat) × (Nat × Nat)
def zMl_0 : List (Nat × zMI) := [(13, ⟨"NumberComes", "person", "(II)I"⟩, prog_1_method_2_code, 4, some .int, false, 2, 0, (2, 237), (2, 235), (2, 236), (1, 1)),
  (14, ⟨"NumberComes$State", "addPerson", "(II)I"⟩, prog_9_method_7_code, 4, some .int, false, 2, 1, (3, 1), (2, 239), (3, 0), (1, 2)),
  (15, ⟨"NumberComes", "isNumber", "(I)Z"⟩, prog_1_method_44_code, 1, some .boolean, true, 1, 0, (3, 4), (3, 3), (3, 3), (1, 1)),
  (16, ⟨"NumberComes", "isFirst", "(I)Z"⟩, prog_1_method_45_code, 1, some .boolean, true, 1, 0, (3, 7), (3, 6), (3, 6), (1, 1)),
  (17, ⟨"NumberComes$Voices", "openFor", "(I)V"⟩, prog_12_method_4_code, 6, none, false, 1, 5, (3, 11), (3, 9), (3, 10), (1, 6)),
  (18, ⟨"NumberComes$Voices", "rulingText", "()LNumberComes$Text;"⟩, prog_12_method_2_code, 2, some (.object "NumberComes$Text"), false, 0, 5, (3, 15), (3, 13), (3, 14), (1, 6)),
  (19, ⟨"NumberComes$Voices", "isShut", "(LNumberComes$Text;II)Z"⟩, prog_12_method_5_code, 5, some .boolean, false, 3, 5, (3, 19), (3, 18), (0, 0), (1, 6)),
  (20, ⟨"NumberComes$Machine", "run", "(LNumberComes$Text;II)I"⟩, prog_5_method_2_code, 7, some .int, false, 3, 4, (3, 23), (3, 21), (3, 22), (1, 5)),
  (21, ⟨"java/lang/Math", "max", "(II)I"⟩, prog_18_method_65_code, 2, some .int, true, 2, 14, (3, 26), (3, 25), (3, 25), (1, 14)),
  (22, ⟨"NumberComes$Machine", "join", "(III)I"⟩, prog_5_method_3_code, 3, some .int, true, 3, 4, (3, 29), (3, 28), (3, 28), (1, 5)),
  (23, ⟨"java/lang/Math", "min", "(II)I"⟩, prog_18_method_69_code, 2, some .int, true, 2, 14, (3, 34), (3, 33), (3, 33), (1, 14)),
  (24, ⟨"java/lang/Math", "min", "(JJ)J"⟩, prog_18_method_70_code, 4, some .long, true, 2, 14, (3, 39), (3, 38), (3, 38), (1, 14)),
  (25, ⟨"java/lang/Math", "max", "(JJ)J"⟩, prog_18_method_66_code, 4, some .long, true, 2, 14, (3, 42), (3, 41), (3, 41), (1, 14)),
  (26, ⟨"NumberComes", "change", "(III)Z"⟩, prog_1_method_3_code, 4, some .boolean, false, 3, 0, (3, 46), (3, 44), (3, 45), (1, 1)),
  (27, ⟨"NumberComes$State", "isTold", "(I)Z"⟩, prog_9_method_4_code, 2, some .boolean, false, 1, 1, (3, 50), (3, 48), (3, 49), (1, 2)),
  (28, ⟨"NumberComes", "day", "(I)Z"⟩, prog_1_method_4_code, 2, some .boolean, false, 1, 0, (3, 56), (3, 54), (3, 55), (1, 1)),
  (29, ⟨"NumberComes", "isDay", "(I)Z"⟩, prog_1_method_46_code, 1, some .boolean, true, 1, 0, (3, 59), (3, 58), (3, 58), (1, 1)),
  (30, ⟨"NumberComes", "clock", "(I)Z"⟩, prog_1_method_5_code, 2, some .boolean, false, 1, 0, (3, 63), (3, 61), (3, 62), (1, 1)),
  (31, ⟨"NumberComes$Voices", "openForAll", "()V"⟩, prog_12_method_3_code, 2, none, false, 0, 5, (3, 67), (3, 65), (3, 66), (1, 6)),
  (32, ⟨"NumberComes", "near", "(IIZ)Z"⟩, prog_1_method_6_code, 4, some .boolean, false, 3, 0, (3, 72), (3, 70), (3, 71), (1, 1)),
  (33, ⟨"NumberComes$State", "setNear", "(IIZ)Z"⟩, prog_9_method_8_code, 4, some .boolean, false, 3, 1, (3, 76), (3, 74), (3, 75), (1, 2)),
  (34, ⟨"NumberComes$State", "isPair", "(II)Z"⟩, prog_9_method_5_code, 3, some .boolean, false, 2, 1, (3, 80), (3, 78), (3, 79), (1, 2)),
  (35, ⟨"NumberComes", "feed", "(IIIII)I"⟩, prog_1_method_7_code, 6, some .int, false, 5, 0, (3, 85), (3, 83), (3, 84), (1, 1)),
  (36, ⟨"NumberComes$Reader", "hasRoom", "(I)Z"⟩, prog_7_method_2_code, 2, some .boolean, false, 1, 2, (3, 89), (3, 87), (3, 88), (1, 3))]
theorem zMc_0 : ∀ q ∈ zMl_0, zPk q.2.2.2.2.2.2.2.2.1 = some (.code q.2.1 q.2.2.1 q.2.2.2.1 q.2.2.2.2.1) := List.forall_mem_cons.mpr ⟨rfl, List.forall_mem_cons.mpr ⟨rfl, List.forall_mem_cons.mpr ⟨rfl, List.forall_mem_cons.mpr ⟨rfl, List.forall_mem_cons.mpr ⟨rfl, List.forall_mem_cons.mpr ⟨rfl, List.forall_mem_cons.mpr ⟨rfl, List.forall_mem_cons.mpr ⟨rfl, List.forall_mem_cons.mpr ⟨rfl, List.forall_mem_cons.mpr ⟨rfl, List.forall_mem_cons.mpr ⟨rfl, List.forall_mem_cons.mpr ⟨rfl, List.forall_mem_cons.mpr ⟨rfl, List.forall_mem_cons.mpr ⟨rfl, List.forall_mem_cons.mpr ⟨rfl, List.forall_mem_cons.mpr ⟨rfl, List.forall_mem_cons.mpr ⟨rfl, List.forall_mem_cons.mpr ⟨rfl, List.forall_mem_cons.mpr ⟨rfl, List.forall_mem_cons.mpr ⟨rfl, List.forall_mem_cons.mpr ⟨rfl, List.forall_mem_cons.mpr ⟨rfl, List.forall_mem_cons.mpr ⟨rfl, List.forall_mem_cons.mpr ⟨rfl, fun _ h => absurd h List.not_mem_nil⟩⟩⟩⟩⟩⟩⟩⟩⟩⟩⟩⟩⟩⟩⟩⟩⟩⟩⟩⟩⟩⟩⟩⟩
def zMl_1 : List (Nat × zMI) := [(37, ⟨"NumberComes$Reader", "addFour", "(I)V"⟩, prog_7_method_3_code, 3, none, false, 1, 2, (3, 93), (3, 91), (3, 92), (1, 3)),
  (38, ⟨"NumberComes", "end", "(I)I"⟩, prog_1_method_8_code, 2, some .int, false, 1, 0, (3, 97), (3, 95), (3, 96), (1, 1)),
  (39, ⟨"NumberComes", "text", "()I"⟩, prog_1_method_9_code, 3, some .int, false, 0, 0, (3, 101), (3, 99), (3, 100), (1, 1)),
  (40, ⟨"NumberComes$Reader", "readAll", "(LNumberComes$Text;)Z"⟩, prog_7_method_4_code, 3, some .boolean, false, 1, 2, (3, 105), (3, 103), (3, 104), (1, 3)),
  (41, ⟨"NumberComes$Text", "clear", "()V"⟩, prog_10_method_2_code, 1, none, false, 0, 3, (3, 109), (3, 107), (3, 108), (1, 4)),
  (42, ⟨"NumberComes$Reader", "advance", "()V"⟩, prog_7_method_20_code, 3, none, false, 0, 2, (3, 113), (3, 112), (0, 1), (1, 3)),
  (43, ⟨"NumberComes$Reader", "byteAt", "(I)I"⟩, prog_7_method_21_code, 2, some .int, false, 1, 2, (3, 117), (3, 116), (0, 2), (1, 3)),
  (44, ⟨"NumberComes$Reader", "isLetter", "(I)Z"⟩, prog_7_method_22_code, 1, some .boolean, true, 1, 2, (3, 120), (3, 119), (3, 119), (1, 3)),
  (45, ⟨"NumberComes$Reader", "isDigit", "(I)Z"⟩, prog_7_method_23_code, 1, some .boolean, true, 1, 2, (3, 123), (3, 122), (3, 122), (1, 3)),
  (66, ⟨"NumberComes$Reader", "readClause", "(I)Z"⟩, prog_7_method_5_code, 5, some .boolean, false, 1, 2, (3, 211), (3, 210), (0, 3), (1, 3)),
  (67, ⟨"NumberComes$Reader", "clauseKind", "()I"⟩, prog_7_method_6_code, 1, some .int, false, 0, 2, (3, 215), (3, 214), (0, 4), (1, 3)),
  (68, ⟨"NumberComes$Reader", "isWord", "(Ljava/lang/String;)Z"⟩, prog_7_method_19_code, 3, some .boolean, false, 1, 2, (3, 220), (3, 219), (0, 5), (1, 3)),
  (75, ⟨"NumberComes$Reader", "fail", "(I)Z"⟩, prog_7_method_18_code, 2, some .boolean, false, 1, 2, (4, 8), (4, 7), (0, 6), (1, 3)),
  (76, ⟨"NumberComes$Reader", "readTwo", "(III)Z"⟩, prog_7_method_7_code, 6, some .boolean, false, 3, 2, (4, 12), (4, 11), (0, 7), (1, 3)),
  (77, ⟨"NumberComes$Reader", "isNumberOf", "(II)Z"⟩, prog_7_method_8_code, 3, some .boolean, false, 2, 2, (4, 16), (4, 15), (0, 8), (1, 3)),
  (78, ⟨"NumberComes$Text", "addClause", "(III)V"⟩, prog_10_method_3_code, 4, none, false, 3, 3, (4, 21), (4, 19), (4, 20), (1, 4)),
  (79, ⟨"NumberComes$Reader", "takeSign", "(I)Z"⟩, prog_7_method_17_code, 2, some .boolean, false, 1, 2, (4, 25), (4, 24), (0, 9), (1, 3)),
  (80, ⟨"NumberComes$Reader", "readSum", "(I)Z"⟩, prog_7_method_12_code, 4, some .boolean, false, 1, 2, (4, 29), (4, 28), (0, 10), (1, 3)),
  (81, ⟨"NumberComes$Reader", "readProduct", "(I)Z"⟩, prog_7_method_13_code, 4, some .boolean, false, 1, 2, (4, 33), (4, 32), (0, 11), (1, 3)),
  (82, ⟨"NumberComes$Reader", "readOne", "(I)Z"⟩, prog_7_method_14_code, 4, some .boolean, false, 1, 2, (4, 37), (4, 36), (0, 12), (1, 3)),
  (83, ⟨"NumberComes$Reader", "nameOf", "()I"⟩, prog_7_method_16_code, 1, some .int, false, 0, 2, (4, 41), (4, 40), (0, 13), (1, 3)),
  (84, ⟨"NumberComes$Reader", "faultOfLeaf", "(I)I"⟩, prog_7_method_15_code, 2, some .int, false, 1, 2, (4, 52), (4, 51), (0, 14), (1, 3)),
  (85, ⟨"NumberComes$Text", "addStep", "(I)V"⟩, prog_10_method_4_code, 2, none, false, 1, 3, (4, 56), (4, 54), (4, 55), (1, 4)),
  (86, ⟨"NumberComes$Reader", "readEither", "()Z"⟩, prog_7_method_9_code, 4, some .boolean, false, 0, 2, (4, 60), (4, 59), (0, 15), (1, 3))]
theorem zMc_1 : ∀ q ∈ zMl_1, zPk q.2.2.2.2.2.2.2.2.1 = some (.code q.2.1 q.2.2.1 q.2.2.2.1 q.2.2.2.2.1) := List.forall_mem_cons.mpr ⟨rfl, List.forall_mem_cons.mpr ⟨rfl, List.forall_mem_cons.mpr ⟨rfl, List.forall_mem_cons.mpr ⟨rfl, List.forall_mem_cons.mpr ⟨rfl, List.forall_mem_cons.mpr ⟨rfl, List.forall_mem_cons.mpr ⟨rfl, List.forall_mem_cons.mpr ⟨rfl, List.forall_mem_cons.mpr ⟨rfl, List.forall_mem_cons.mpr ⟨rfl, List.forall_mem_cons.mpr ⟨rfl, List.forall_mem_cons.mpr ⟨rfl, List.forall_mem_cons.mpr ⟨rfl, List.forall_mem_cons.mpr ⟨rfl, List.forall_mem_cons.mpr ⟨rfl, List.forall_mem_cons.mpr ⟨rfl, List.forall_mem_cons.mpr ⟨rfl, List.forall_mem_cons.mpr ⟨rfl, List.forall_mem_cons.mpr ⟨rfl, List.forall_mem_cons.mpr ⟨rfl, List.forall_mem_cons.mpr ⟨rfl, List.forall_mem_cons.mpr ⟨rfl, List.forall_mem_cons.mpr ⟨rfl, List.forall_mem_cons.mpr ⟨rfl, fun _ h => absurd h List.not_mem_nil⟩⟩⟩⟩⟩⟩⟩⟩⟩⟩⟩⟩⟩⟩⟩⟩⟩⟩⟩⟩⟩⟩⟩⟩
def zMl_2 : List (Nat × zMI) := [(87, ⟨"NumberComes$Reader", "readAsk", "(I)Z"⟩, prog_7_method_10_code, 3, some .boolean, false, 1, 2, (4, 64), (4, 63), (0, 16), (1, 3)),
  (88, ⟨"NumberComes$Reader", "comparing", "()I"⟩, prog_7_method_11_code, 1, some .int, false, 0, 2, (4, 69), (4, 68), (0, 17), (1, 3)),
  (89, ⟨"NumberComes", "fault", "(I)I"⟩, prog_1_method_10_code, 2, some .int, false, 1, 0, (4, 76), (4, 74), (4, 75), (1, 1)),
  (90, ⟨"NumberComes", "by", "(I)Z"⟩, prog_1_method_11_code, 2, some .boolean, false, 1, 0, (4, 80), (4, 78), (4, 79), (1, 1)),
  (91, ⟨"NumberComes", "speaks", "(IJ)Z"⟩, prog_1_method_12_code, 4, some .boolean, false, 2, 0, (4, 84), (4, 82), (4, 83), (1, 1)),
  (92, ⟨"NumberComes", "isHour", "(J)Z"⟩, prog_1_method_47_code, 2, some .boolean, true, 1, 0, (4, 87), (4, 86), (4, 86), (1, 1)),
  (93, ⟨"NumberComes$Voices", "isHeardAt", "(IJ)Z"⟩, prog_12_method_9_code, 4, some .boolean, false, 2, 5, (4, 92), (4, 90), (4, 91), (1, 6)),
  (94, ⟨"NumberComes$Voices", "isDue", "(IJI)Z"⟩, prog_12_method_7_code, 7, some .boolean, false, 3, 5, (4, 96), (4, 95), (0, 18), (1, 6)),
  (95, ⟨"NumberComes$Voices", "isOpen", "(IJ)Z"⟩, prog_12_method_8_code, 4, some .boolean, false, 2, 5, (4, 100), (4, 99), (0, 19), (1, 6)),
  (96, ⟨"NumberComes", "next", "(IJ)J"⟩, prog_1_method_13_code, 4, some .long, false, 2, 0, (4, 104), (4, 102), (4, 103), (1, 1)),
  (97, ⟨"NumberComes$State", "isSet", "(I)Z"⟩, prog_9_method_6_code, 2, some .boolean, false, 1, 1, (4, 108), (4, 106), (4, 107), (1, 2)),
  (98, ⟨"NumberComes$Meetings", "firstFrom", "(IJ)J"⟩, prog_6_method_2_code, 6, some .long, false, 2, 6, (4, 113), (4, 111), (4, 112), (1, 7)),
  (99, ⟨"NumberComes$Voices", "openClocks", "(I)J"⟩, prog_12_method_6_code, 5, some .long, false, 1, 5, (4, 117), (4, 115), (4, 116), (1, 6)),
  (100, ⟨"NumberComes$Meetings", "firstByDay", "(IJJ)J"⟩, prog_6_method_15_code, 12, some .long, false, 3, 6, (4, 121), (4, 120), (0, 20), (1, 7)),
  (101, ⟨"NumberComes$Meetings", "rarestOf", "(I)I"⟩, prog_6_method_19_code, 4, some .int, false, 1, 6, (4, 125), (4, 124), (0, 21), (1, 7)),
  (102, ⟨"NumberComes", "lowestOf", "(I)I"⟩, prog_1_method_52_code, 1, some .int, true, 1, 0, (4, 128), (4, 127), (4, 127), (1, 1)),
  (103, ⟨"java/lang/Integer", "bitCount", "(I)I"⟩, prog_16_method_49_code, 1, some .int, true, 1, 15, (4, 131), (4, 130), (4, 130), (1, 20)),
  (104, ⟨"NumberComes", "isOf", "(II)Z"⟩, prog_1_method_50_code, 2, some .boolean, true, 2, 0, (4, 137), (4, 136), (4, 136), (1, 1)),
  (105, ⟨"NumberComes$Meetings", "areDue", "(II)Z"⟩, prog_6_method_20_code, 5, some .boolean, false, 2, 6, (4, 142), (4, 141), (0, 22), (1, 7)),
  (106, ⟨"NumberComes$Meetings", "inDay", "(JI)J"⟩, prog_6_method_18_code, 6, some .long, false, 2, 6, (4, 146), (4, 145), (0, 23), (1, 7)),
  (107, ⟨"NumberComes$Meetings", "firstOpen", "(JJ)J"⟩, prog_6_method_16_code, 8, some .long, false, 2, 6, (4, 150), (4, 149), (0, 24), (1, 7)),
  (108, ⟨"NumberComes$Meetings", "firstWithoutDay", "(IJJ)J"⟩, prog_6_method_6_code, 7, some .long, false, 3, 6, (4, 157), (4, 156), (0, 25), (1, 7)),
  (109, ⟨"NumberComes$Meetings", "pairApart", "(I)I"⟩, prog_6_method_4_code, 4, some .int, false, 1, 6, (4, 161), (4, 159), (4, 160), (1, 7)),
  (110, ⟨"NumberComes$Meetings", "isMeeting", "(II)Z"⟩, prog_6_method_5_code, 3, some .boolean, false, 2, 6, (4, 165), (4, 164), (0, 26), (1, 7))]
theorem zMc_2 : ∀ q ∈ zMl_2, zPk q.2.2.2.2.2.2.2.2.1 = some (.code q.2.1 q.2.2.1 q.2.2.2.1 q.2.2.2.2.1) := List.forall_mem_cons.mpr ⟨rfl, List.forall_mem_cons.mpr ⟨rfl, List.forall_mem_cons.mpr ⟨rfl, List.forall_mem_cons.mpr ⟨rfl, List.forall_mem_cons.mpr ⟨rfl, List.forall_mem_cons.mpr ⟨rfl, List.forall_mem_cons.mpr ⟨rfl, List.forall_mem_cons.mpr ⟨rfl, List.forall_mem_cons.mpr ⟨rfl, List.forall_mem_cons.mpr ⟨rfl, List.forall_mem_cons.mpr ⟨rfl, List.forall_mem_cons.mpr ⟨rfl, List.forall_mem_cons.mpr ⟨rfl, List.forall_mem_cons.mpr ⟨rfl, List.forall_mem_cons.mpr ⟨rfl, List.forall_mem_cons.mpr ⟨rfl, List.forall_mem_cons.mpr ⟨rfl, List.forall_mem_cons.mpr ⟨rfl, List.forall_mem_cons.mpr ⟨rfl, List.forall_mem_cons.mpr ⟨rfl, List.forall_mem_cons.mpr ⟨rfl, List.forall_mem_cons.mpr ⟨rfl, List.forall_mem_cons.mpr ⟨rfl, List.forall_mem_cons.mpr ⟨rfl, fun _ h => absurd h List.not_mem_nil⟩⟩⟩⟩⟩⟩⟩⟩⟩⟩⟩⟩⟩⟩⟩⟩⟩⟩⟩⟩⟩⟩⟩⟩
def zMl_3 : List (Nat × zMI) := [(111, ⟨"NumberComes", "gcd", "(JJ)J"⟩, prog_1_method_53_code, 11, some .long, true, 2, 0, (4, 168), (4, 167), (4, 167), (1, 1)),
  (112, ⟨"NumberComes$Meetings", "clocksInReach", "(IJ)J"⟩, prog_6_method_7_code, 10, some .long, false, 2, 6, (4, 172), (4, 171), (0, 27), (1, 7)),
  (113, ⟨"NumberComes$Meetings", "gather", "(I)V"⟩, prog_6_method_8_code, 3, none, false, 1, 6, (4, 176), (4, 175), (0, 28), (1, 7)),
  (114, ⟨"NumberComes$Meetings", "join", "(II)V"⟩, prog_6_method_9_code, 9, none, false, 2, 6, (4, 180), (4, 179), (0, 29), (1, 7)),
  (115, ⟨"java/lang/Math", "floorMod", "(JJ)J"⟩, prog_18_method_52_code, 6, some .long, true, 2, 14, (4, 183), (4, 182), (4, 182), (1, 14)),
  (116, ⟨"NumberComes$Meetings", "inverse", "(JJ)J"⟩, prog_6_method_10_code, 19, some .long, true, 2, 6, (4, 186), (4, 185), (4, 185), (1, 7)),
  (117, ⟨"NumberComes$Meetings", "moveOn", "(IJ)V"⟩, prog_6_method_11_code, 7, none, false, 2, 6, (4, 191), (4, 190), (0, 30), (1, 7)),
  (118, ⟨"NumberComes", "barred", "(II)I"⟩, prog_1_method_14_code, 4, some .int, false, 2, 0, (4, 196), (4, 194), (4, 195), (1, 1)),
  (119, ⟨"NumberComes", "together", "(IJJ)J"⟩, prog_1_method_15_code, 6, some .long, false, 3, 0, (4, 201), (4, 199), (4, 200), (1, 1)),
  (120, ⟨"NumberComes", "areHours", "(JJ)Z"⟩, prog_1_method_49_code, 4, some .boolean, true, 2, 0, (4, 204), (4, 203), (4, 203), (1, 1)),
  (121, ⟨"NumberComes$Meetings", "countOf", "(IJJ)J"⟩, prog_6_method_3_code, 8, some .long, false, 3, 6, (4, 208), (4, 206), (4, 207), (1, 7)),
  (122, ⟨"NumberComes$Meetings", "countByDay", "(IJJJ)J"⟩, prog_6_method_17_code, 12, some .long, false, 4, 6, (4, 212), (4, 211), (0, 31), (1, 7)),
  (123, ⟨"NumberComes$Meetings", "layClocks", "(J)V"⟩, prog_6_method_12_code, 6, none, false, 1, 6, (4, 216), (4, 215), (0, 32), (1, 7)),
  (124, ⟨"NumberComes$Meetings", "countOpen", "(JJJJ)J"⟩, prog_6_method_13_code, 16, some .long, false, 4, 6, (4, 220), (4, 219), (0, 33), (1, 7)),
  (125, ⟨"NumberComes$Meetings", "turned", "(JI)J"⟩, prog_6_method_14_code, 4, some .long, false, 2, 6, (4, 224), (4, 223), (0, 34), (1, 7)),
  (126, ⟨"java/lang/Long", "bitCount", "(J)I"⟩, prog_17_method_50_code, 2, some .int, true, 1, 16, (4, 227), (4, 226), (4, 226), (1, 21)),
  (127, ⟨"NumberComes", "alone", "(IJI)I"⟩, prog_1_method_16_code, 11, some .int, false, 3, 0, (4, 234), (4, 232), (4, 233), (1, 1)),
  (128, ⟨"NumberComes$Voices", "begin", "(JI)V"⟩, prog_12_method_12_code, 4, none, false, 2, 5, (4, 239), (4, 237), (4, 238), (1, 6)),
  (129, ⟨"NumberComes$Voices", "layRow", "(JI)V"⟩, prog_12_method_14_code, 10, none, false, 2, 5, (5, 3), (5, 2), (0, 35), (1, 6)),
  (130, ⟨"java/util/Arrays", "fill", "([IIII)V"⟩, prog_23_method_104_code, 5, none, true, 4, 17, (5, 8), (5, 7), (5, 7), (1, 22)),
  (131, ⟨"java/util/Arrays", "rangeCheck", "(III)V"⟩, prog_23_method_30_code, 3, none, true, 3, 17, (5, 11), (5, 10), (5, 10), (1, 22)),
  (132, ⟨"NumberComes$Voices", "nextMask", "()I"⟩, prog_12_method_13_code, 2, some .int, false, 0, 5, (5, 16), (5, 14), (5, 15), (1, 6)),
  (133, ⟨"NumberComes", "secret", "(IIJI)J"⟩, prog_1_method_17_code, 13, some .long, false, 4, 0, (5, 20), (5, 18), (5, 19), (1, 1)),
  (134, ⟨"NumberComes$State", "listenersOf", "(I)I"⟩, prog_9_method_11_code, 4, some .int, false, 1, 1, (5, 25), (5, 23), (5, 24), (1, 2))]
theorem zMc_3 : ∀ q ∈ zMl_3, zPk q.2.2.2.2.2.2.2.2.1 = some (.code q.2.1 q.2.2.1 q.2.2.2.1 q.2.2.2.2.1) := List.forall_mem_cons.mpr ⟨rfl, List.forall_mem_cons.mpr ⟨rfl, List.forall_mem_cons.mpr ⟨rfl, List.forall_mem_cons.mpr ⟨rfl, List.forall_mem_cons.mpr ⟨rfl, List.forall_mem_cons.mpr ⟨rfl, List.forall_mem_cons.mpr ⟨rfl, List.forall_mem_cons.mpr ⟨rfl, List.forall_mem_cons.mpr ⟨rfl, List.forall_mem_cons.mpr ⟨rfl, List.forall_mem_cons.mpr ⟨rfl, List.forall_mem_cons.mpr ⟨rfl, List.forall_mem_cons.mpr ⟨rfl, List.forall_mem_cons.mpr ⟨rfl, List.forall_mem_cons.mpr ⟨rfl, List.forall_mem_cons.mpr ⟨rfl, List.forall_mem_cons.mpr ⟨rfl, List.forall_mem_cons.mpr ⟨rfl, List.forall_mem_cons.mpr ⟨rfl, List.forall_mem_cons.mpr ⟨rfl, List.forall_mem_cons.mpr ⟨rfl, List.forall_mem_cons.mpr ⟨rfl, List.forall_mem_cons.mpr ⟨rfl, List.forall_mem_cons.mpr ⟨rfl, fun _ h => absurd h List.not_mem_nil⟩⟩⟩⟩⟩⟩⟩⟩⟩⟩⟩⟩⟩⟩⟩⟩⟩⟩⟩⟩⟩⟩⟩⟩
def zMl_4 : List (Nat × zMI) := [(135, ⟨"NumberComes", "pass", "(IJII)J"⟩, prog_1_method_18_code, 10, some .long, false, 4, 0, (5, 29), (5, 27), (5, 28), (1, 1)),
  (136, ⟨"NumberComes", "isStart", "(J)Z"⟩, prog_1_method_48_code, 2, some .boolean, true, 1, 0, (5, 32), (5, 31), (5, 31), (1, 1)),
  (137, ⟨"NumberComes", "talk", "(JII)I"⟩, prog_1_method_19_code, 6, some .int, false, 3, 0, (5, 38), (5, 36), (5, 37), (1, 1)),
  (138, ⟨"NumberComes", "judge", "()I"⟩, prog_1_method_20_code, 2, some .int, false, 0, 0, (5, 42), (5, 40), (5, 41), (1, 1)),
  (139, ⟨"NumberComes$Voices", "heardOf", "(IJ)I"⟩, prog_12_method_10_code, 6, some .int, false, 2, 5, (5, 46), (5, 44), (5, 45), (1, 6)),
  (140, ⟨"NumberComes", "overheard", "(I)I"⟩, prog_1_method_21_code, 2, some .int, false, 1, 0, (5, 51), (5, 49), (5, 50), (1, 1)),
  (141, ⟨"NumberComes", "turn", "(IJI)J"⟩, prog_1_method_22_code, 6, some .long, false, 3, 0, (5, 55), (5, 53), (5, 54), (1, 1)),
  (142, ⟨"NumberComes", "isOfOrNone", "(II)Z"⟩, prog_1_method_51_code, 2, some .boolean, true, 2, 0, (5, 58), (5, 57), (5, 57), (1, 1)),
  (143, ⟨"NumberComes$Turns", "fewest", "(IJ)I"⟩, prog_11_method_2_code, 8, some .int, false, 2, 7, (5, 63), (5, 61), (5, 62), (1, 8)),
  (144, ⟨"NumberComes$Turns", "listHours", "(J)V"⟩, prog_11_method_5_code, 6, none, false, 1, 7, (5, 67), (5, 66), (0, 36), (1, 8)),
  (145, ⟨"java/util/Arrays", "fill", "([JJ)V"⟩, prog_23_method_101_code, 5, none, true, 2, 17, (5, 70), (5, 69), (5, 69), (1, 22)),
  (146, ⟨"NumberComes$Turns", "firstHours", "(I)J"⟩, prog_11_method_6_code, 1, some .long, true, 1, 7, (5, 75), (5, 74), (5, 74), (1, 8)),
  (147, ⟨"NumberComes$Turns", "canAll", "(IJ)Z"⟩, prog_11_method_7_code, 5, some .boolean, false, 2, 7, (5, 80), (5, 79), (0, 37), (1, 8)),
  (148, ⟨"java/util/Arrays", "fill", "([II)V"⟩, prog_23_method_103_code, 4, none, true, 2, 17, (5, 83), (5, 82), (5, 82), (1, 22)),
  (149, ⟨"NumberComes$Turns", "canHold", "(IJI)Z"⟩, prog_11_method_8_code, 10, some .boolean, false, 3, 7, (5, 88), (5, 87), (0, 38), (1, 8)),
  (150, ⟨"NumberComes$Turns", "allot", "(II)V"⟩, prog_11_method_3_code, 7, none, false, 2, 7, (5, 93), (5, 91), (5, 92), (1, 8)),
  (151, ⟨"NumberComes$Turns", "lowestFor", "(IIJ)I"⟩, prog_11_method_4_code, 8, some .int, false, 3, 7, (5, 97), (5, 96), (0, 39), (1, 8)),
  (152, ⟨"NumberComes", "given", "(I)I"⟩, prog_1_method_23_code, 3, some .int, false, 1, 0, (5, 101), (5, 99), (5, 100), (1, 1)),
  (153, ⟨"NumberComes", "need", "(IIII)I"⟩, prog_1_method_24_code, 6, some .int, false, 4, 0, (5, 105), (5, 103), (5, 104), (1, 1)),
  (154, ⟨"NumberComes", "worth", "(I)I"⟩, prog_1_method_25_code, 2, some .int, false, 1, 0, (5, 109), (5, 107), (5, 108), (1, 1)),
  (155, ⟨"NumberComes$Gifts", "total", "()I"⟩, prog_4_method_2_code, 3, some .int, false, 0, 8, (5, 114), (5, 112), (5, 113), (1, 9)),
  (156, ⟨"NumberComes$Gifts", "worthOf", "(I)I"⟩, prog_4_method_3_code, 6, some .int, false, 1, 8, (5, 118), (5, 116), (5, 117), (1, 9)),
  (157, ⟨"NumberComes", "give", "(II)I"⟩, prog_1_method_26_code, 3, some .int, false, 2, 0, (5, 128), (5, 126), (5, 127), (1, 1)),
  (158, ⟨"NumberComes$Gifts", "findBest", "(I)V"⟩, prog_4_method_5_code, 10, none, false, 1, 8, (5, 132), (5, 130), (5, 131), (1, 9))]
theorem zMc_4 : ∀ q ∈ zMl_4, zPk q.2.2.2.2.2.2.2.2.1 = some (.code q.2.1 q.2.2.1 q.2.2.2.1 q.2.2.2.2.1) := List.forall_mem_cons.mpr ⟨rfl, List.forall_mem_cons.mpr ⟨rfl, List.forall_mem_cons.mpr ⟨rfl, List.forall_mem_cons.mpr ⟨rfl, List.forall_mem_cons.mpr ⟨rfl, List.forall_mem_cons.mpr ⟨rfl, List.forall_mem_cons.mpr ⟨rfl, List.forall_mem_cons.mpr ⟨rfl, List.forall_mem_cons.mpr ⟨rfl, List.forall_mem_cons.mpr ⟨rfl, List.forall_mem_cons.mpr ⟨rfl, List.forall_mem_cons.mpr ⟨rfl, List.forall_mem_cons.mpr ⟨rfl, List.forall_mem_cons.mpr ⟨rfl, List.forall_mem_cons.mpr ⟨rfl, List.forall_mem_cons.mpr ⟨rfl, List.forall_mem_cons.mpr ⟨rfl, List.forall_mem_cons.mpr ⟨rfl, List.forall_mem_cons.mpr ⟨rfl, List.forall_mem_cons.mpr ⟨rfl, List.forall_mem_cons.mpr ⟨rfl, List.forall_mem_cons.mpr ⟨rfl, List.forall_mem_cons.mpr ⟨rfl, List.forall_mem_cons.mpr ⟨rfl, fun _ h => absurd h List.not_mem_nil⟩⟩⟩⟩⟩⟩⟩⟩⟩⟩⟩⟩⟩⟩⟩⟩⟩⟩⟩⟩⟩⟩⟩⟩
def zMl_5 : List (Nat × zMI) := [(159, ⟨"NumberComes$Gifts", "renumber", "(II)V"⟩, prog_4_method_4_code, 3, none, false, 2, 8, (5, 139), (5, 138), (0, 40), (1, 9)),
  (160, ⟨"NumberComes$Gifts", "isBetter", "(III)Z"⟩, prog_4_method_6_code, 6, some .boolean, false, 3, 8, (5, 144), (5, 143), (0, 41), (1, 9)),
  (161, ⟨"NumberComes", "mend", "(I)I"⟩, prog_1_method_27_code, 2, some .int, false, 1, 0, (5, 148), (5, 146), (5, 147), (1, 1)),
  (162, ⟨"NumberComes$Gifts", "findChange", "()Z"⟩, prog_4_method_7_code, 4, some .boolean, false, 0, 8, (5, 152), (5, 150), (5, 151), (1, 9)),
  (163, ⟨"NumberComes", "cover", "()I"⟩, prog_1_method_28_code, 1, some .int, false, 0, 0, (5, 156), (5, 154), (5, 155), (1, 1)),
  (164, ⟨"NumberComes$Cover", "fewestOf", "()I"⟩, prog_3_method_2_code, 3, some .int, false, 0, 11, (5, 160), (5, 158), (5, 159), (1, 12)),
  (165, ⟨"NumberComes$Cover", "hoursToCover", "()I"⟩, prog_3_method_3_code, 3, some .int, false, 0, 11, (5, 164), (5, 163), (0, 42), (1, 12)),
  (166, ⟨"NumberComes", "common", "(JJ)J"⟩, prog_1_method_54_code, 4, some .long, true, 2, 0, (5, 167), (5, 166), (5, 166), (1, 1)),
  (167, ⟨"NumberComes$Cover", "add", "(I)V"⟩, prog_3_method_5_code, 2, none, false, 1, 11, (5, 176), (5, 175), (0, 43), (1, 12)),
  (168, ⟨"NumberComes$Cover", "widen", "()V"⟩, prog_3_method_6_code, 3, none, false, 0, 11, (5, 180), (5, 179), (0, 44), (1, 12)),
  (169, ⟨"NumberComes$Cover", "has", "(I)Z"⟩, prog_3_method_4_code, 2, some .boolean, false, 1, 11, (5, 184), (5, 183), (0, 45), (1, 12)),
  (170, ⟨"NumberComes$Cover", "leastCover", "()I"⟩, prog_3_method_7_code, 5, some .int, false, 0, 11, (5, 188), (5, 187), (0, 46), (1, 12)),
  (171, ⟨"NumberComes", "apart", "(II)I"⟩, prog_1_method_29_code, 3, some .int, false, 2, 0, (5, 193), (5, 191), (5, 192), (1, 1)),
  (172, ⟨"NumberComes$Searches", "canPart", "(I)Z"⟩, prog_8_method_2_code, 3, some .boolean, false, 1, 9, (5, 197), (5, 195), (5, 196), (1, 10)),
  (173, ⟨"NumberComes$Searches", "part", "(I)Z"⟩, prog_8_method_3_code, 3, some .boolean, false, 1, 9, (5, 203), (5, 201), (5, 202), (1, 10)),
  (174, ⟨"NumberComes$Searches", "spanOf", "(II)I"⟩, prog_8_method_5_code, 6, some .int, false, 2, 9, (5, 207), (5, 206), (0, 47), (1, 10)),
  (175, ⟨"NumberComes$Searches", "place", "(I)Z"⟩, prog_8_method_6_code, 5, some .boolean, false, 1, 9, (5, 217), (5, 216), (0, 49), (1, 10)),
  (176, ⟨"NumberComes$Searches", "leavesChoices", "(I)Z"⟩, prog_8_method_7_code, 7, some .boolean, false, 1, 9, (5, 221), (5, 220), (0, 50), (1, 10)),
  (177, ⟨"NumberComes$Searches", "firstOf", "(I)I"⟩, prog_8_method_8_code, 3, some .int, false, 1, 9, (5, 227), (5, 225), (5, 226), (1, 10)),
  (178, ⟨"NumberComes", "heard", "(IZ)I"⟩, prog_1_method_30_code, 3, some .int, false, 2, 0, (5, 231), (5, 229), (5, 230), (1, 1)),
  (179, ⟨"NumberComes$State", "addHeard", "(IZ)V"⟩, prog_9_method_9_code, 3, none, false, 2, 1, (5, 236), (5, 234), (5, 235), (1, 2)),
  (180, ⟨"NumberComes", "fits", "(II)I"⟩, prog_1_method_31_code, 6, some .int, false, 2, 0, (6, 0), (5, 238), (5, 239), (1, 1)),
  (181, ⟨"NumberComes$Searches", "isFitting", "(II)Z"⟩, prog_8_method_9_code, 6, some .boolean, false, 2, 9, (6, 4), (6, 2), (6, 3), (1, 10)),
  (182, ⟨"NumberComes$State", "wasHeard", "(I)Z"⟩, prog_9_method_10_code, 2, some .boolean, false, 1, 1, (6, 8), (6, 6), (6, 7), (1, 2))]
theorem zMc_5 : ∀ q ∈ zMl_5, zPk q.2.2.2.2.2.2.2.2.1 = some (.code q.2.1 q.2.2.1 q.2.2.2.1 q.2.2.2.2.1) := List.forall_mem_cons.mpr ⟨rfl, List.forall_mem_cons.mpr ⟨rfl, List.forall_mem_cons.mpr ⟨rfl, List.forall_mem_cons.mpr ⟨rfl, List.forall_mem_cons.mpr ⟨rfl, List.forall_mem_cons.mpr ⟨rfl, List.forall_mem_cons.mpr ⟨rfl, List.forall_mem_cons.mpr ⟨rfl, List.forall_mem_cons.mpr ⟨rfl, List.forall_mem_cons.mpr ⟨rfl, List.forall_mem_cons.mpr ⟨rfl, List.forall_mem_cons.mpr ⟨rfl, List.forall_mem_cons.mpr ⟨rfl, List.forall_mem_cons.mpr ⟨rfl, List.forall_mem_cons.mpr ⟨rfl, List.forall_mem_cons.mpr ⟨rfl, List.forall_mem_cons.mpr ⟨rfl, List.forall_mem_cons.mpr ⟨rfl, List.forall_mem_cons.mpr ⟨rfl, List.forall_mem_cons.mpr ⟨rfl, List.forall_mem_cons.mpr ⟨rfl, List.forall_mem_cons.mpr ⟨rfl, List.forall_mem_cons.mpr ⟨rfl, List.forall_mem_cons.mpr ⟨rfl, fun _ h => absurd h List.not_mem_nil⟩⟩⟩⟩⟩⟩⟩⟩⟩⟩⟩⟩⟩⟩⟩⟩⟩⟩⟩⟩⟩⟩⟩⟩
def zMl_6 : List (Nat × zMI) := [(183, ⟨"NumberComes", "who", "()I"⟩, prog_1_method_32_code, 4, some .int, false, 0, 0, (6, 12), (6, 10), (6, 11), (1, 1)),
  (184, ⟨"NumberComes", "bits", "(IJ)J"⟩, prog_1_method_33_code, 7, some .long, false, 2, 0, (6, 17), (6, 15), (6, 16), (1, 1)),
  (185, ⟨"NumberComes", "other", "(IIII)I"⟩, prog_1_method_34_code, 6, some .int, false, 4, 0, (6, 21), (6, 19), (6, 20), (1, 1)),
  (186, ⟨"NumberComes$Voices", "countAlone", "(IIII)I"⟩, prog_12_method_11_code, 7, some .int, false, 4, 5, (6, 25), (6, 23), (6, 24), (1, 6)),
  (187, ⟨"NumberComes", "hush", "(JII)J"⟩, prog_1_method_35_code, 5, some .long, false, 3, 0, (6, 29), (6, 27), (6, 28), (1, 1)),
  (188, ⟨"NumberComes", "silence", "(JII)J"⟩, prog_1_method_42_code, 10, some .long, false, 3, 0, (6, 33), (6, 32), (0, 51), (1, 1)),
  (189, ⟨"NumberComes", "crowd", "(JII)J"⟩, prog_1_method_43_code, 10, some .long, false, 3, 0, (6, 37), (6, 36), (0, 52), (1, 1)),
  (190, ⟨"NumberComes", "child", "(IIII)I"⟩, prog_1_method_36_code, 6, some .int, false, 4, 0, (6, 41), (6, 39), (6, 40), (1, 1)),
  (191, ⟨"NumberComes$Searches", "leastChild", "(III)I"⟩, prog_8_method_10_code, 7, some .int, false, 3, 9, (6, 45), (6, 43), (6, 44), (1, 10)),
  (192, ⟨"NumberComes$Searches", "spanOfChild", "(II)I"⟩, prog_8_method_11_code, 6, some .int, false, 2, 9, (6, 49), (6, 48), (0, 53), (1, 10)),
  (193, ⟨"NumberComes$Searches", "isChild", "(III)Z"⟩, prog_8_method_12_code, 6, some .boolean, false, 3, 9, (6, 53), (6, 52), (0, 54), (1, 10)),
  (194, ⟨"NumberComes", "pairs", "(III)I"⟩, prog_1_method_37_code, 5, some .int, false, 3, 0, (6, 57), (6, 55), (6, 56), (1, 1)),
  (195, ⟨"NumberComes$Couples", "pairUp", "(II)V"⟩, prog_2_method_2_code, 5, none, false, 2, 10, (6, 61), (6, 59), (6, 60), (1, 11)),
  (196, ⟨"NumberComes$Couples", "tryAll", "(III)V"⟩, prog_2_method_3_code, 6, none, false, 3, 10, (6, 67), (6, 66), (0, 55), (1, 11)),
  (197, ⟨"NumberComes", "roll", "(I)I"⟩, prog_1_method_38_code, 5, some .int, false, 1, 0, (6, 75), (6, 73), (6, 74), (1, 1)),
  (198, ⟨"NumberComes$State", "forgetPeople", "()V"⟩, prog_9_method_3_code, 1, none, false, 0, 1, (6, 79), (6, 77), (6, 78), (1, 2)),
  (199, ⟨"NumberComes$State", "isDone", "(III)Z"⟩, prog_9_method_12_code, 4, some .boolean, false, 3, 1, (6, 83), (6, 81), (6, 82), (1, 2)),
  (200, ⟨"NumberComes", "image", "()I"⟩, prog_1_method_39_code, 1, some .int, false, 0, 0, (6, 89), (6, 87), (6, 88), (1, 1)),
  (201, ⟨"NumberComes$State", "takeAll", "(LNumberComes$State;)V"⟩, prog_9_method_2_code, 2, none, false, 1, 1, (6, 93), (6, 91), (6, 92), (1, 2)),
  (202, ⟨"NumberComes", "back", "()I"⟩, prog_1_method_40_code, 1, some .int, false, 0, 0, (6, 98), (6, 96), (6, 97), (1, 1)),
  (203, ⟨"NumberComes", "about", "(I)I"⟩, prog_1_method_41_code, 3, some .int, false, 1, 0, (6, 102), (6, 100), (6, 101), (1, 1)),
  (204, ⟨"NumberComes$State", "countAbout", "(I)I"⟩, prog_9_method_13_code, 2, some .int, false, 1, 1, (6, 106), (6, 104), (6, 105), (1, 2)),
  (206, ⟨"NumberComesModel", "copy", "([I[I)V"⟩, prog_14_method_2_code, 3, none, true, 2, 12, (6, 115), (6, 114), (6, 114), (1, 13)),
  (207, ⟨"NumberComesModel", "person", "(II)I"⟩, prog_14_method_9_code, 3, some .int, false, 2, 12, (7, 17), (7, 15), (7, 16), (1, 13))]
theorem zMc_6 : ∀ q ∈ zMl_6, zPk q.2.2.2.2.2.2.2.2.1 = some (.code q.2.1 q.2.2.1 q.2.2.2.1 q.2.2.2.2.1) := List.forall_mem_cons.mpr ⟨rfl, List.forall_mem_cons.mpr ⟨rfl, List.forall_mem_cons.mpr ⟨rfl, List.forall_mem_cons.mpr ⟨rfl, List.forall_mem_cons.mpr ⟨rfl, List.forall_mem_cons.mpr ⟨rfl, List.forall_mem_cons.mpr ⟨rfl, List.forall_mem_cons.mpr ⟨rfl, List.forall_mem_cons.mpr ⟨rfl, List.forall_mem_cons.mpr ⟨rfl, List.forall_mem_cons.mpr ⟨rfl, List.forall_mem_cons.mpr ⟨rfl, List.forall_mem_cons.mpr ⟨rfl, List.forall_mem_cons.mpr ⟨rfl, List.forall_mem_cons.mpr ⟨rfl, List.forall_mem_cons.mpr ⟨rfl, List.forall_mem_cons.mpr ⟨rfl, List.forall_mem_cons.mpr ⟨rfl, List.forall_mem_cons.mpr ⟨rfl, List.forall_mem_cons.mpr ⟨rfl, List.forall_mem_cons.mpr ⟨rfl, List.forall_mem_cons.mpr ⟨rfl, List.forall_mem_cons.mpr ⟨rfl, List.forall_mem_cons.mpr ⟨rfl, fun _ h => absurd h List.not_mem_nil⟩⟩⟩⟩⟩⟩⟩⟩⟩⟩⟩⟩⟩⟩⟩⟩⟩⟩⟩⟩⟩⟩⟩⟩
def zMl_7 : List (Nat × zMI) := [(208, ⟨"NumberComesModel", "isCaller", "(II)Z"⟩, prog_14_method_8_code, 2, some .boolean, true, 2, 12, (7, 20), (7, 19), (7, 19), (1, 13)),
  (209, ⟨"NumberComesModel", "isIn", "(III)Z"⟩, prog_14_method_3_code, 3, some .boolean, true, 3, 12, (7, 23), (7, 22), (7, 22), (1, 13)),
  (210, ⟨"NumberComesModel", "change", "(III)Z"⟩, prog_14_method_10_code, 4, some .boolean, false, 3, 12, (7, 27), (7, 25), (7, 26), (1, 13)),
  (211, ⟨"NumberComesModel", "isPerson", "(I)Z"⟩, prog_14_method_4_code, 2, some .boolean, false, 1, 12, (7, 31), (7, 30), (0, 56), (1, 13)),
  (212, ⟨"NumberComesModel", "day", "(I)Z"⟩, prog_14_method_12_code, 2, some .boolean, false, 1, 12, (7, 35), (7, 33), (7, 34), (1, 13)),
  (213, ⟨"NumberComesModel", "isDay", "(I)Z"⟩, prog_14_method_11_code, 1, some .boolean, true, 1, 12, (7, 38), (7, 37), (7, 37), (1, 13)),
  (214, ⟨"NumberComesModel", "clock", "(I)Z"⟩, prog_14_method_13_code, 2, some .boolean, false, 1, 12, (7, 42), (7, 40), (7, 41), (1, 13)),
  (215, ⟨"NumberComesModel", "near", "(IIZ)Z"⟩, prog_14_method_14_code, 4, some .boolean, false, 3, 12, (7, 46), (7, 44), (7, 45), (1, 13)),
  (216, ⟨"NumberComesModel", "feed", "(IIIII)I"⟩, prog_14_method_16_code, 6, some .int, false, 5, 12, (7, 50), (7, 48), (7, 49), (1, 13)),
  (217, ⟨"NumberComesModel", "four", "(I)V"⟩, prog_14_method_15_code, 3, none, false, 1, 12, (7, 54), (7, 53), (0, 57), (1, 13)),
  (218, ⟨"NumberComesModel", "end", "(I)I"⟩, prog_14_method_17_code, 2, some .int, false, 1, 12, (7, 58), (7, 56), (7, 57), (1, 13)),
  (219, ⟨"NumberComesModel", "text", "()I"⟩, prog_14_method_46_code, 1, some .int, false, 0, 12, (7, 62), (7, 60), (7, 61), (1, 13)),
  (220, ⟨"NumberComesModel", "readText", "()I"⟩, prog_14_method_45_code, 2, some .int, false, 0, 12, (7, 66), (7, 65), (0, 58), (1, 13)),
  (221, ⟨"NumberComesModel", "nextToken", "()V"⟩, prog_14_method_21_code, 3, none, false, 0, 12, (7, 70), (7, 69), (0, 59), (1, 13)),
  (222, ⟨"NumberComesModel", "byteAt", "(I)I"⟩, prog_14_method_18_code, 2, some .int, false, 1, 12, (7, 74), (7, 73), (0, 60), (1, 13)),
  (223, ⟨"NumberComesModel", "isDigit", "(I)Z"⟩, prog_14_method_20_code, 1, some .boolean, true, 1, 12, (7, 77), (7, 76), (7, 76), (1, 13)),
  (224, ⟨"NumberComesModel", "isLetter", "(I)Z"⟩, prog_14_method_19_code, 1, some .boolean, true, 1, 12, (7, 81), (7, 80), (7, 80), (1, 13)),
  (225, ⟨"NumberComesModel", "clause", "()I"⟩, prog_14_method_44_code, 6, some .int, false, 0, 12, (7, 85), (7, 84), (0, 61), (1, 13)),
  (226, ⟨"NumberComesModel", "sortOf", "()I"⟩, prog_14_method_41_code, 1, some .int, false, 0, 12, (7, 89), (7, 88), (0, 62), (1, 13)),
  (227, ⟨"NumberComesModel", "w4", "(IIII)J"⟩, prog_14_method_24_code, 4, some .long, true, 4, 12, (7, 92), (7, 91), (7, 91), (1, 13)),
  (228, ⟨"NumberComesModel", "w3", "(III)J"⟩, prog_14_method_22_code, 3, some .long, true, 3, 12, (7, 95), (7, 94), (7, 94), (1, 13)),
  (229, ⟨"NumberComesModel", "isWord", "(J)Z"⟩, prog_14_method_26_code, 3, some .boolean, false, 1, 12, (7, 99), (7, 98), (0, 63), (1, 13)),
  (230, ⟨"NumberComesModel", "w5", "(IIIII)J"⟩, prog_14_method_23_code, 5, some .long, true, 5, 12, (7, 102), (7, 101), (7, 101), (1, 13)),
  (231, ⟨"NumberComesModel", "w6", "(IIIIII)J"⟩, prog_14_method_25_code, 6, some .long, true, 6, 12, (7, 105), (7, 104), (7, 104), (1, 13))]
theorem zMc_7 : ∀ q ∈ zMl_7, zPk q.2.2.2.2.2.2.2.2.1 = some (.code q.2.1 q.2.2.1 q.2.2.2.1 q.2.2.2.2.1) := List.forall_mem_cons.mpr ⟨rfl, List.forall_mem_cons.mpr ⟨rfl, List.forall_mem_cons.mpr ⟨rfl, List.forall_mem_cons.mpr ⟨rfl, List.forall_mem_cons.mpr ⟨rfl, List.forall_mem_cons.mpr ⟨rfl, List.forall_mem_cons.mpr ⟨rfl, List.forall_mem_cons.mpr ⟨rfl, List.forall_mem_cons.mpr ⟨rfl, List.forall_mem_cons.mpr ⟨rfl, List.forall_mem_cons.mpr ⟨rfl, List.forall_mem_cons.mpr ⟨rfl, List.forall_mem_cons.mpr ⟨rfl, List.forall_mem_cons.mpr ⟨rfl, List.forall_mem_cons.mpr ⟨rfl, List.forall_mem_cons.mpr ⟨rfl, List.forall_mem_cons.mpr ⟨rfl, List.forall_mem_cons.mpr ⟨rfl, List.forall_mem_cons.mpr ⟨rfl, List.forall_mem_cons.mpr ⟨rfl, List.forall_mem_cons.mpr ⟨rfl, List.forall_mem_cons.mpr ⟨rfl, List.forall_mem_cons.mpr ⟨rfl, List.forall_mem_cons.mpr ⟨rfl, fun _ h => absurd h List.not_mem_nil⟩⟩⟩⟩⟩⟩⟩⟩⟩⟩⟩⟩⟩⟩⟩⟩⟩⟩⟩⟩⟩⟩⟩⟩
def zMl_8 : List (Nat × zMI) := [(232, ⟨"NumberComesModel", "rolled", "(II)I"⟩, prog_14_method_43_code, 4, some .int, false, 2, 12, (7, 109), (7, 108), (0, 64), (1, 13)),
  (233, ⟨"NumberComesModel", "figure", "(III)I"⟩, prog_14_method_42_code, 4, some .int, false, 3, 12, (7, 113), (7, 112), (0, 65), (1, 13)),
  (234, ⟨"NumberComesModel", "summed", "()I"⟩, prog_14_method_37_code, 2, some .int, false, 0, 12, (7, 117), (7, 116), (0, 66), (1, 13)),
  (235, ⟨"NumberComesModel", "goesOn", "()Z"⟩, prog_14_method_35_code, 1, some .boolean, false, 0, 12, (7, 121), (7, 120), (0, 67), (1, 13)),
  (236, ⟨"NumberComesModel", "hasParen", "()Z"⟩, prog_14_method_34_code, 2, some .boolean, false, 0, 12, (7, 125), (7, 124), (0, 68), (1, 13)),
  (237, ⟨"NumberComesModel", "behindOne", "()I"⟩, prog_14_method_36_code, 2, some .int, false, 0, 12, (7, 129), (7, 128), (0, 69), (1, 13)),
  (238, ⟨"NumberComesModel", "settle", "(I)V"⟩, prog_14_method_30_code, 2, none, false, 1, 12, (7, 133), (7, 132), (0, 70), (1, 13)),
  (239, ⟨"NumberComesModel", "emit", "(II)V"⟩, prog_14_method_27_code, 3, none, false, 2, 12, (7, 137), (7, 136), (0, 71), (1, 13)),
  (240, ⟨"NumberComesModel", "push", "(I)V"⟩, prog_14_method_28_code, 2, none, false, 1, 12, (7, 141), (7, 140), (0, 72), (1, 13)),
  (241, ⟨"NumberComesModel", "whole", "()V"⟩, prog_14_method_29_code, 1, none, false, 0, 12, (7, 145), (7, 144), (0, 73), (1, 13)),
  (242, ⟨"NumberComesModel", "beginOne", "()I"⟩, prog_14_method_33_code, 2, some .int, false, 0, 12, (7, 149), (7, 148), (0, 74), (1, 13)),
  (243, ⟨"NumberComesModel", "nameOf", "()I"⟩, prog_14_method_31_code, 1, some .int, false, 0, 12, (7, 153), (7, 152), (0, 75), (1, 13)),
  (244, ⟨"NumberComesModel", "isBarred", "(I)Z"⟩, prog_14_method_32_code, 2, some .boolean, false, 1, 12, (7, 157), (7, 156), (0, 76), (1, 13)),
  (245, ⟨"NumberComesModel", "either", "()I"⟩, prog_14_method_40_code, 6, some .int, false, 0, 12, (7, 161), (7, 160), (0, 77), (1, 13)),
  (246, ⟨"NumberComesModel", "asks", "()I"⟩, prog_14_method_39_code, 5, some .int, false, 0, 12, (7, 165), (7, 164), (0, 78), (1, 13)),
  (247, ⟨"NumberComesModel", "compareOf", "()I"⟩, prog_14_method_38_code, 1, some .int, false, 0, 12, (7, 169), (7, 168), (0, 79), (1, 13)),
  (248, ⟨"NumberComesModel", "fault", "(I)I"⟩, prog_14_method_47_code, 2, some .int, false, 1, 12, (7, 174), (7, 172), (7, 173), (1, 13)),
  (249, ⟨"NumberComesModel", "by", "(I)Z"⟩, prog_14_method_48_code, 2, some .boolean, false, 1, 12, (7, 178), (7, 176), (7, 177), (1, 13)),
  (250, ⟨"NumberComesModel", "roll", "(I)I"⟩, prog_14_method_49_code, 4, some .int, false, 1, 12, (7, 182), (7, 180), (7, 181), (1, 13)),
  (251, ⟨"NumberComesModel", "speaks", "(IJ)Z"⟩, prog_14_method_63_code, 4, some .boolean, false, 2, 12, (7, 188), (7, 186), (7, 187), (1, 13)),
  (252, ⟨"NumberComesModel", "isHour", "(J)Z"⟩, prog_14_method_6_code, 2, some .boolean, true, 1, 12, (7, 191), (7, 190), (7, 190), (1, 13)),
  (253, ⟨"NumberComesModel", "take", "()V"⟩, prog_14_method_56_code, 2, none, false, 0, 12, (7, 196), (7, 195), (0, 80), (1, 13)),
  (254, ⟨"NumberComesModel", "bar", "(I)V"⟩, prog_14_method_57_code, 5, none, false, 1, 12, (7, 200), (7, 199), (0, 81), (1, 13)),
  (255, ⟨"NumberComesModel", "isDue", "(IJ)Z"⟩, prog_14_method_58_code, 4, some .boolean, false, 2, 12, (7, 204), (7, 203), (0, 82), (1, 13))]
theorem zMc_8 : ∀ q ∈ zMl_8, zPk q.2.2.2.2.2.2.2.2.1 = some (.code q.2.1 q.2.2.1 q.2.2.2.1 q.2.2.2.2.1) := List.forall_mem_cons.mpr ⟨rfl, List.forall_mem_cons.mpr ⟨rfl, List.forall_mem_cons.mpr ⟨rfl, List.forall_mem_cons.mpr ⟨rfl, List.forall_mem_cons.mpr ⟨rfl, List.forall_mem_cons.mpr ⟨rfl, List.forall_mem_cons.mpr ⟨rfl, List.forall_mem_cons.mpr ⟨rfl, List.forall_mem_cons.mpr ⟨rfl, List.forall_mem_cons.mpr ⟨rfl, List.forall_mem_cons.mpr ⟨rfl, List.forall_mem_cons.mpr ⟨rfl, List.forall_mem_cons.mpr ⟨rfl, List.forall_mem_cons.mpr ⟨rfl, List.forall_mem_cons.mpr ⟨rfl, List.forall_mem_cons.mpr ⟨rfl, List.forall_mem_cons.mpr ⟨rfl, List.forall_mem_cons.mpr ⟨rfl, List.forall_mem_cons.mpr ⟨rfl, List.forall_mem_cons.mpr ⟨rfl, List.forall_mem_cons.mpr ⟨rfl, List.forall_mem_cons.mpr ⟨rfl, List.forall_mem_cons.mpr ⟨rfl, List.forall_mem_cons.mpr ⟨rfl, fun _ h => absurd h List.not_mem_nil⟩⟩⟩⟩⟩⟩⟩⟩⟩⟩⟩⟩⟩⟩⟩⟩⟩⟩⟩⟩⟩⟩⟩⟩
def zMl_9 : List (Nat × zMI) := [(256, ⟨"NumberComesModel", "clauses", "()I"⟩, prog_14_method_54_code, 1, some .int, false, 0, 12, (7, 208), (7, 207), (0, 83), (1, 13)),
  (257, ⟨"NumberComesModel", "sortAt", "(I)I"⟩, prog_14_method_55_code, 2, some .int, false, 1, 12, (7, 212), (7, 211), (0, 84), (1, 13)),
  (258, ⟨"NumberComesModel", "work", "(I)V"⟩, prog_14_method_53_code, 9, none, false, 1, 12, (7, 216), (7, 215), (0, 85), (1, 13)),
  (259, ⟨"NumberComesModel", "two", "(IJJ)J"⟩, prog_14_method_51_code, 5, some .long, true, 3, 12, (7, 219), (7, 218), (7, 218), (1, 13)),
  (260, ⟨"NumberComesModel", "clip", "(J)J"⟩, prog_14_method_50_code, 2, some .long, true, 1, 12, (7, 222), (7, 221), (7, 221), (1, 13)),
  (261, ⟨"NumberComesModel", "isAsked", "(IJJ)Z"⟩, prog_14_method_52_code, 5, some .boolean, true, 3, 12, (7, 227), (7, 226), (7, 226), (1, 13)),
  (262, ⟨"NumberComesModel", "isSpeaking", "(IJ)Z"⟩, prog_14_method_60_code, 4, some .boolean, false, 2, 12, (7, 231), (7, 230), (0, 86), (1, 13)),
  (263, ⟨"NumberComesModel", "isSpeakingBy", "(IJI)Z"⟩, prog_14_method_59_code, 5, some .boolean, false, 3, 12, (7, 235), (7, 234), (0, 87), (1, 13)),
  (264, ⟨"NumberComesModel", "next", "(IJ)J"⟩, prog_14_method_75_code, 10, some .long, false, 2, 12, (7, 239), (7, 237), (7, 238), (1, 13)),
  (265, ⟨"NumberComesModel", "isSet", "(I)Z"⟩, prog_14_method_5_code, 2, some .boolean, false, 1, 12, (8, 3), (8, 2), (0, 88), (1, 13)),
  (266, ⟨"NumberComesModel", "nextByDay", "(IJ)J"⟩, prog_14_method_74_code, 6, some .long, false, 2, 12, (8, 8), (8, 7), (0, 89), (1, 13)),
  (267, ⟨"NumberComesModel", "turnRound", "()I"⟩, prog_14_method_73_code, 1, some .int, false, 0, 12, (8, 12), (8, 11), (0, 90), (1, 13)),
  (268, ⟨"NumberComesModel", "common", "(JJ)J"⟩, prog_14_method_64_code, 10, some .long, true, 2, 12, (8, 15), (8, 14), (8, 14), (1, 13)),
  (269, ⟨"NumberComesModel", "doAll", "(IJ)Z"⟩, prog_14_method_62_code, 5, some .boolean, false, 2, 12, (8, 19), (8, 18), (0, 91), (1, 13)),
  (270, ⟨"NumberComesModel", "has", "(II)Z"⟩, prog_14_method_7_code, 2, some .boolean, true, 2, 12, (8, 22), (8, 21), (8, 21), (1, 13)),
  (271, ⟨"NumberComesModel", "areJoined", "(I)Z"⟩, prog_14_method_68_code, 4, some .boolean, false, 1, 12, (8, 27), (8, 26), (0, 92), (1, 13)),
  (272, ⟨"NumberComesModel", "canMeet", "(II)Z"⟩, prog_14_method_67_code, 3, some .boolean, false, 2, 12, (8, 31), (8, 30), (0, 93), (1, 13)),
  (273, ⟨"NumberComesModel", "isOpen", "(II)Z"⟩, prog_14_method_69_code, 4, some .boolean, false, 2, 12, (8, 36), (8, 35), (0, 94), (1, 13)),
  (274, ⟨"NumberComesModel", "findHours", "(II)Z"⟩, prog_14_method_70_code, 4, some .boolean, false, 2, 12, (8, 40), (8, 39), (0, 95), (1, 13)),
  (275, ⟨"NumberComesModel", "join", "(I)Z"⟩, prog_14_method_66_code, 12, some .boolean, false, 1, 12, (8, 44), (8, 43), (0, 96), (1, 13)),
  (276, ⟨"NumberComesModel", "inverse", "(JJ)J"⟩, prog_14_method_65_code, 18, some .long, true, 2, 12, (8, 48), (8, 47), (8, 47), (1, 13)),
  (277, ⟨"NumberComesModel", "begin", "(IJ)J"⟩, prog_14_method_71_code, 7, some .long, false, 2, 12, (8, 52), (8, 51), (0, 97), (1, 13)),
  (278, ⟨"NumberComesModel", "from", "(J)J"⟩, prog_14_method_72_code, 3, some .long, false, 1, 12, (8, 56), (8, 55), (0, 98), (1, 13)),
  (279, ⟨"NumberComesModel", "barred", "(II)I"⟩, prog_14_method_76_code, 5, some .int, false, 2, 12, (8, 60), (8, 58), (8, 59), (1, 13))]
theorem zMc_9 : ∀ q ∈ zMl_9, zPk q.2.2.2.2.2.2.2.2.1 = some (.code q.2.1 q.2.2.1 q.2.2.2.1 q.2.2.2.2.1) := List.forall_mem_cons.mpr ⟨rfl, List.forall_mem_cons.mpr ⟨rfl, List.forall_mem_cons.mpr ⟨rfl, List.forall_mem_cons.mpr ⟨rfl, List.forall_mem_cons.mpr ⟨rfl, List.forall_mem_cons.mpr ⟨rfl, List.forall_mem_cons.mpr ⟨rfl, List.forall_mem_cons.mpr ⟨rfl, List.forall_mem_cons.mpr ⟨rfl, List.forall_mem_cons.mpr ⟨rfl, List.forall_mem_cons.mpr ⟨rfl, List.forall_mem_cons.mpr ⟨rfl, List.forall_mem_cons.mpr ⟨rfl, List.forall_mem_cons.mpr ⟨rfl, List.forall_mem_cons.mpr ⟨rfl, List.forall_mem_cons.mpr ⟨rfl, List.forall_mem_cons.mpr ⟨rfl, List.forall_mem_cons.mpr ⟨rfl, List.forall_mem_cons.mpr ⟨rfl, List.forall_mem_cons.mpr ⟨rfl, List.forall_mem_cons.mpr ⟨rfl, List.forall_mem_cons.mpr ⟨rfl, List.forall_mem_cons.mpr ⟨rfl, List.forall_mem_cons.mpr ⟨rfl, fun _ h => absurd h List.not_mem_nil⟩⟩⟩⟩⟩⟩⟩⟩⟩⟩⟩⟩⟩⟩⟩⟩⟩⟩⟩⟩⟩⟩⟩⟩
def zMl_10 : List (Nat × zMI) := [(280, ⟨"NumberComesModel", "together", "(IJJ)J"⟩, prog_14_method_80_code, 6, some .long, false, 3, 12, (8, 64), (8, 62), (8, 63), (1, 13)),
  (281, ⟨"NumberComesModel", "areHours", "(JJ)Z"⟩, prog_14_method_79_code, 4, some .boolean, true, 2, 12, (8, 67), (8, 66), (8, 66), (1, 13)),
  (282, ⟨"NumberComesModel", "togetherOf", "(IJJ)J"⟩, prog_14_method_78_code, 14, some .long, false, 3, 12, (8, 71), (8, 70), (0, 99), (1, 13)),
  (283, ⟨"NumberComesModel", "countIn", "(IJI)I"⟩, prog_14_method_77_code, 12, some .int, false, 3, 12, (8, 75), (8, 74), (0, 100), (1, 13)),
  (284, ⟨"NumberComesModel", "alone", "(IJI)I"⟩, prog_14_method_81_code, 10, some .int, false, 3, 12, (8, 79), (8, 77), (8, 78), (1, 13)),
  (285, ⟨"NumberComesModel", "speakers", "(J)I"⟩, prog_14_method_61_code, 5, some .int, false, 1, 12, (8, 83), (8, 82), (0, 101), (1, 13)),
  (286, ⟨"NumberComesModel", "secret", "(IIJI)J"⟩, prog_14_method_83_code, 9, some .long, false, 4, 12, (8, 87), (8, 85), (8, 86), (1, 13)),
  (287, ⟨"NumberComesModel", "isSecret", "(IIJ)Z"⟩, prog_14_method_82_code, 7, some .boolean, false, 3, 12, (8, 92), (8, 91), (0, 102), (1, 13)),
  (288, ⟨"NumberComesModel", "pass", "(IJII)J"⟩, prog_14_method_85_code, 10, some .long, false, 4, 12, (8, 96), (8, 94), (8, 95), (1, 13)),
  (289, ⟨"NumberComesModel", "lowest", "(I)I"⟩, prog_14_method_84_code, 2, some .int, true, 1, 12, (8, 100), (8, 99), (8, 99), (1, 13)),
  (290, ⟨"NumberComesModel", "talk", "(JII)I"⟩, prog_14_method_86_code, 5, some .int, false, 3, 12, (8, 104), (8, 102), (8, 103), (1, 13)),
  (291, ⟨"NumberComesModel", "judge", "()I"⟩, prog_14_method_87_code, 2, some .int, false, 0, 12, (8, 108), (8, 106), (8, 107), (1, 13)),
  (292, ⟨"NumberComesModel", "overheard", "(I)I"⟩, prog_14_method_88_code, 4, some .int, false, 1, 12, (8, 112), (8, 110), (8, 111), (1, 13)),
  (293, ⟨"NumberComesModel", "turn", "(IJI)J"⟩, prog_14_method_93_code, 11, some .long, false, 3, 12, (8, 116), (8, 114), (8, 115), (1, 13)),
  (294, ⟨"NumberComesModel", "firstHours", "(I)J"⟩, prog_14_method_92_code, 1, some .long, true, 1, 12, (8, 119), (8, 118), (8, 118), (1, 13)),
  (295, ⟨"NumberComesModel", "canTurn", "(IJ)Z"⟩, prog_14_method_91_code, 5, some .boolean, false, 2, 12, (8, 123), (8, 122), (0, 103), (1, 13)),
  (296, ⟨"NumberComesModel", "size", "(I)I"⟩, prog_14_method_90_code, 3, some .int, true, 1, 12, (8, 126), (8, 125), (8, 125), (1, 13)),
  (297, ⟨"NumberComesModel", "hasAtLeast", "(JI)Z"⟩, prog_14_method_89_code, 6, some .boolean, true, 2, 12, (8, 129), (8, 128), (8, 128), (1, 13)),
  (298, ⟨"NumberComesModel", "given", "(I)I"⟩, prog_14_method_94_code, 3, some .int, false, 1, 12, (8, 133), (8, 131), (8, 132), (1, 13)),
  (299, ⟨"NumberComesModel", "need", "(IIII)I"⟩, prog_14_method_95_code, 6, some .int, false, 4, 12, (8, 137), (8, 135), (8, 136), (1, 13)),
  (300, ⟨"NumberComesModel", "worth", "(I)I"⟩, prog_14_method_98_code, 2, some .int, false, 1, 12, (8, 141), (8, 139), (8, 140), (1, 13)),
  (301, ⟨"NumberComesModel", "worthOfAll", "()I"⟩, prog_14_method_97_code, 3, some .int, false, 0, 12, (8, 146), (8, 145), (0, 104), (1, 13)),
  (302, ⟨"NumberComesModel", "worthOf", "(I)I"⟩, prog_14_method_96_code, 5, some .int, false, 1, 12, (8, 150), (8, 149), (0, 105), (1, 13)),
  (303, ⟨"NumberComesModel", "give", "(II)I"⟩, prog_14_method_100_code, 11, some .int, false, 2, 12, (8, 156), (8, 154), (8, 155), (1, 13))]
theorem zMc_10 : ∀ q ∈ zMl_10, zPk q.2.2.2.2.2.2.2.2.1 = some (.code q.2.1 q.2.2.1 q.2.2.2.1 q.2.2.2.2.1) := List.forall_mem_cons.mpr ⟨rfl, List.forall_mem_cons.mpr ⟨rfl, List.forall_mem_cons.mpr ⟨rfl, List.forall_mem_cons.mpr ⟨rfl, List.forall_mem_cons.mpr ⟨rfl, List.forall_mem_cons.mpr ⟨rfl, List.forall_mem_cons.mpr ⟨rfl, List.forall_mem_cons.mpr ⟨rfl, List.forall_mem_cons.mpr ⟨rfl, List.forall_mem_cons.mpr ⟨rfl, List.forall_mem_cons.mpr ⟨rfl, List.forall_mem_cons.mpr ⟨rfl, List.forall_mem_cons.mpr ⟨rfl, List.forall_mem_cons.mpr ⟨rfl, List.forall_mem_cons.mpr ⟨rfl, List.forall_mem_cons.mpr ⟨rfl, List.forall_mem_cons.mpr ⟨rfl, List.forall_mem_cons.mpr ⟨rfl, List.forall_mem_cons.mpr ⟨rfl, List.forall_mem_cons.mpr ⟨rfl, List.forall_mem_cons.mpr ⟨rfl, List.forall_mem_cons.mpr ⟨rfl, List.forall_mem_cons.mpr ⟨rfl, List.forall_mem_cons.mpr ⟨rfl, fun _ h => absurd h List.not_mem_nil⟩⟩⟩⟩⟩⟩⟩⟩⟩⟩⟩⟩⟩⟩⟩⟩⟩⟩⟩⟩⟩⟩⟩⟩
def zMl_11 : List (Nat × zMI) := [(304, ⟨"NumberComesModel", "giveTo", "(II)V"⟩, prog_14_method_99_code, 3, none, false, 2, 12, (8, 160), (8, 159), (0, 106), (1, 13)),
  (305, ⟨"NumberComesModel", "mend", "(I)I"⟩, prog_14_method_101_code, 8, some .int, false, 1, 12, (8, 164), (8, 162), (8, 163), (1, 13)),
  (306, ⟨"NumberComesModel", "cover", "()I"⟩, prog_14_method_104_code, 4, some .int, false, 0, 12, (8, 168), (8, 166), (8, 167), (1, 13)),
  (307, ⟨"NumberComesModel", "roundOf", "()I"⟩, prog_14_method_102_code, 4, some .int, false, 0, 12, (8, 172), (8, 171), (0, 107), (1, 13)),
  (308, ⟨"NumberComesModel", "covers", "(I)Z"⟩, prog_14_method_103_code, 3, some .boolean, false, 1, 12, (8, 177), (8, 176), (0, 108), (1, 13)),
  (309, ⟨"NumberComesModel", "apart", "(II)I"⟩, prog_14_method_107_code, 5, some .int, false, 2, 12, (8, 181), (8, 179), (8, 180), (1, 13)),
  (310, ⟨"NumberComesModel", "findApart", "(I)Z"⟩, prog_14_method_106_code, 4, some .boolean, false, 1, 12, (8, 185), (8, 184), (0, 109), (1, 13)),
  (311, ⟨"NumberComesModel", "isApart", "(I)Z"⟩, prog_14_method_105_code, 3, some .boolean, false, 1, 12, (8, 189), (8, 188), (0, 110), (1, 13)),
  (312, ⟨"NumberComesModel", "heard", "(IZ)I"⟩, prog_14_method_108_code, 3, some .int, false, 2, 12, (8, 193), (8, 191), (8, 192), (1, 13)),
  (313, ⟨"NumberComesModel", "fits", "(II)I"⟩, prog_14_method_110_code, 6, some .int, false, 2, 12, (8, 198), (8, 196), (8, 197), (1, 13)),
  (314, ⟨"NumberComesModel", "fitsAll", "(II)Z"⟩, prog_14_method_109_code, 6, some .boolean, false, 2, 12, (8, 202), (8, 201), (0, 111), (1, 13)),
  (315, ⟨"NumberComesModel", "who", "()I"⟩, prog_14_method_111_code, 4, some .int, false, 0, 12, (8, 206), (8, 204), (8, 205), (1, 13)),
  (316, ⟨"NumberComesModel", "bits", "(IJ)J"⟩, prog_14_method_112_code, 7, some .long, false, 2, 12, (8, 210), (8, 208), (8, 209), (1, 13)),
  (317, ⟨"NumberComesModel", "other", "(IIII)I"⟩, prog_14_method_113_code, 9, some .int, false, 4, 12, (8, 214), (8, 212), (8, 213), (1, 13)),
  (318, ⟨"NumberComesModel", "hush", "(JII)J"⟩, prog_14_method_114_code, 15, some .long, false, 3, 12, (8, 218), (8, 216), (8, 217), (1, 13)),
  (319, ⟨"NumberComesModel", "child", "(IIII)I"⟩, prog_14_method_117_code, 7, some .int, false, 4, 12, (8, 222), (8, 220), (8, 221), (1, 13)),
  (320, ⟨"NumberComesModel", "meets", "(III)Z"⟩, prog_14_method_115_code, 4, some .boolean, false, 3, 12, (8, 226), (8, 225), (0, 112), (1, 13)),
  (321, ⟨"NumberComesModel", "isChild", "(III)Z"⟩, prog_14_method_116_code, 5, some .boolean, false, 3, 12, (8, 230), (8, 229), (0, 113), (1, 13)),
  (322, ⟨"NumberComesModel", "pairs", "(III)I"⟩, prog_14_method_120_code, 9, some .int, false, 3, 12, (8, 234), (8, 232), (8, 233), (1, 13)),
  (323, ⟨"NumberComesModel", "pairsOf", "(II)J"⟩, prog_14_method_119_code, 5, some .long, false, 2, 12, (8, 238), (8, 237), (0, 114), (1, 13)),
  (324, ⟨"NumberComesModel", "pairUp", "(I)V"⟩, prog_14_method_118_code, 6, none, false, 1, 12, (9, 2), (9, 1), (0, 115), (1, 13)),
  (325, ⟨"NumberComesModel", "image", "()I"⟩, prog_14_method_121_code, 2, some .int, false, 0, 12, (9, 6), (9, 4), (9, 5), (1, 13)),
  (326, ⟨"NumberComesModel", "back", "()I"⟩, prog_14_method_122_code, 2, some .int, false, 0, 12, (9, 10), (9, 8), (9, 9), (1, 13)),
  (327, ⟨"NumberComesModel", "about", "(I)I"⟩, prog_14_method_123_code, 2, some .int, false, 1, 12, (9, 14), (9, 12), (9, 13), (1, 13))]
theorem zMc_11 : ∀ q ∈ zMl_11, zPk q.2.2.2.2.2.2.2.2.1 = some (.code q.2.1 q.2.2.1 q.2.2.2.1 q.2.2.2.2.1) := List.forall_mem_cons.mpr ⟨rfl, List.forall_mem_cons.mpr ⟨rfl, List.forall_mem_cons.mpr ⟨rfl, List.forall_mem_cons.mpr ⟨rfl, List.forall_mem_cons.mpr ⟨rfl, List.forall_mem_cons.mpr ⟨rfl, List.forall_mem_cons.mpr ⟨rfl, List.forall_mem_cons.mpr ⟨rfl, List.forall_mem_cons.mpr ⟨rfl, List.forall_mem_cons.mpr ⟨rfl, List.forall_mem_cons.mpr ⟨rfl, List.forall_mem_cons.mpr ⟨rfl, List.forall_mem_cons.mpr ⟨rfl, List.forall_mem_cons.mpr ⟨rfl, List.forall_mem_cons.mpr ⟨rfl, List.forall_mem_cons.mpr ⟨rfl, List.forall_mem_cons.mpr ⟨rfl, List.forall_mem_cons.mpr ⟨rfl, List.forall_mem_cons.mpr ⟨rfl, List.forall_mem_cons.mpr ⟨rfl, List.forall_mem_cons.mpr ⟨rfl, List.forall_mem_cons.mpr ⟨rfl, List.forall_mem_cons.mpr ⟨rfl, List.forall_mem_cons.mpr ⟨rfl, fun _ h => absurd h List.not_mem_nil⟩⟩⟩⟩⟩⟩⟩⟩⟩⟩⟩⟩⟩⟩⟩⟩⟩⟩⟩⟩⟩⟩⟩⟩
def zMl_12 : List (Nat × zMI) := [(329, ⟨"NumberComes$Searches", "areSharing", "()Z"⟩, prog_8_method_4_code, 3, some .boolean, false, 0, 9, (5, 213), (5, 212), (0, 48), (1, 10))]
theorem zMc_12 : ∀ q ∈ zMl_12, zPk q.2.2.2.2.2.2.2.2.1 = some (.code q.2.1 q.2.2.1 q.2.2.2.1 q.2.2.2.2.1) := List.forall_mem_cons.mpr ⟨rfl, fun _ h => absurd h List.not_mem_nil⟩
def zMl : List (Nat × zMI) := zMl_0 ++ (zMl_1 ++ (zMl_2 ++ (zMl_3 ++ (zMl_4 ++ (zMl_5 ++ (zMl_6 ++ (zMl_7 ++ (zMl_8 ++ (zMl_9 ++ (zMl_10 ++ (zMl_11 ++ (zMl_12))))))))))))
theorem zMc : ∀ q ∈ zMl, zPk q.2.2.2.2.2.2.2.2.1 = some (.code q.2.1 q.2.2.1 q.2.2.2.1 q.2.2.2.2.1) := by
  intro q hq
  simp only [zMl, List.mem_append] at hq
  rcases hq with hq | hq | hq | hq | hq | hq | hq | hq | hq | hq | hq | hq | hq
  · exact zMc_0 q hq
  · exact zMc_1 q hq
  · exact zMc_2 q hq
  · exact zMc_3 q hq
  · exact zMc_4 q hq
  · exact zMc_5 q hq
  · exact zMc_6 q hq
  · exact zMc_7 q hq
  · exact zMc_8 q hq
  · exact zMc_9 q hq
  · exact zMc_10 q hq
  · exact zMc_11 q hq
  · exact zMc_12 q hq
def zLk {α : Type} : List (Nat × α) → Nat → Option α
  | [], _ => none
  | a :: t, n => match Nat.beq a.1 n with
    | true => some a.2
    | false => zLk t n
theorem zLk_mem {α : Type} : ∀ {l : List (Nat × α)} {n : Nat} {a : α}, zLk l n = some a → (n, a) ∈ l
  | [], _, _, h => by cases h
  | b :: t, n, a, h => by
    unfold zLk at h
    split at h
    · rename_i hb
      cases h
      rw [← Nat.eq_of_beq_eq_true hb]
      exact List.mem_cons_self
    · exact List.mem_cons_of_mem _ (zLk_mem h)
def zMi (M : Nat) : Option zMI := zLk zMl M
