/-! the pure machine: cells by number, ints and longs apart, references and shapes apart -/
abbrev pm_M : Type := (Nat → Nat → Int32) × (Nat → Nat → Int64)
abbrev pm_E : Type := Nat × Nat × (Nat → Nat × Nat) × (Nat → Nat → Option Nat)
abbrev pm_Z : Type := Option Value × pm_E × pm_M
abbrev pm_C : Type := Nat → List Value → pm_E → pm_M → pm_Z → Prop
def pm_row {α : Type} (f : Nat → α) (a : Nat) (g : α) : Nat → α := fun c => if c = a then g else f c
def pm_up {α : Type} (f : Nat → Nat → α) (a k : Nat) (v : α) : Nat → Nat → α := pm_row f a (pm_row (f a) k v)
def pm_si (M : pm_M) (a k : Nat) (v : Int32) : pm_M := (pm_up M.1 a k v, M.2)
def pm_sj (M : pm_M) (a k : Nat) (v : Int64) : pm_M := (M.1, pm_up M.2 a k v)
def pm_ri (M : pm_M) (a : Nat) (g : Nat → Int32) : pm_M := (pm_row M.1 a g, M.2)
def pm_rj (M : pm_M) (a : Nat) (g : Nat → Int64) : pm_M := (M.1, pm_row M.2 a g)
def pm_sp (E : pm_E) (a k : Nat) (v : Option Nat) : pm_E := (E.1, E.2.1, E.2.2.1, pm_up E.2.2.2 a k v)
/-- a new cell of kind q with n places -/
def pm_ne (E : pm_E) (q n len : Nat) : pm_E := (E.1 + 1, E.2.1 + n, pm_row E.2.2.1 E.1 (q, len), pm_row E.2.2.2 E.1 (fun _ => none))
def pm_nm (E : pm_E) (M : pm_M) : pm_M := (pm_row M.1 E.1 (fun _ => 0), pm_row M.2 E.1 (fun _ => 0))
def pm_rf (r : Option Nat) : Value := match r with
  | none => .null
  | some a => .ref a
def pm_lg (v : Value) : Bool := v.category == 2
/-- a store into a frame: what shared a place with it is gone -/
def pm_sto (ls : List Value) (i : Nat) (v : Value) : List Value :=
  let l1 := match i with
    | 0 => ls
    | j + 1 => if pm_lg (ls.getD j .null) then ls.set j .null else ls
  let l2 := l1.set i v
  if pm_lg v then l2.set (i + 1) .null else l2
def pm_ent (as : List Value) (n : Nat) : List Value :=
  let l := as.flatMap (fun v => if pm_lg v then [v, .null] else [v])
  l ++ List.replicate (n - l.length) .null
/-- a cell that may be read as an array -/
def pm_ok (E : pm_E) (a q : Nat) : Prop := (a < E.1 ∨ a = 4000) ∧ (E.2.2.1 a).1 = q
def pm_al (E : pm_E) (a : Nat) : Nat := (E.2.2.1 a).2
def pm_cat (st : List Value) : Nat := (st.map fun v => v.category).sum
/-- fields: by the owner's number and the pool's index: the number of the field's owner, of the field, its kind (0 int, 1 long, 2 reference, 3 boolean), final -/

def pm_frL : List (List (Nat × (Nat × Nat × Nat × Bool))) := [
  [(9, (0, 0, 2, true)), (24, (7, 2, 2, true))], 
  [(9, (1, 0, 2, true)), (15, (1, 1, 2, true)), (18, (1, 2, 2, true)), (21, (1, 3, 0, false)), (25, (1, 4, 0, false)), (28, (1, 5, 0, false)), (31, (1, 6, 0, false)), (34, (1, 7, 0, false))], 
  [(9, (2, 0, 2, true)), (15, (2, 1, 2, true)), (18, (2, 2, 2, true)), (21, (2, 3, 2, true)), (24, (2, 4, 2, true)), (27, (2, 5, 2, true)), (30, (2, 6, 2, true)), (33, (2, 7, 2, true)), (36, (2, 8, 0, false)), (46, (2, 9, 0, false)), (53, (2, 10, 0, false)), (69, (3, 9, 2, true)), (78, (3, 0, 0, false))], 
  [(9, (3, 0, 0, false)), (15, (3, 5, 2, true)), (19, (3, 6, 2, true)), (22, (3, 7, 2, true)), (25, (3, 8, 2, true)), (28, (3, 9, 2, true)), (31, (3, 10, 2, true)), (34, (3, 11, 2, true)), (40, (3, 12, 2, true)), (44, (3, 1, 0, false)), (47, (3, 2, 0, false)), (50, (3, 3, 0, false)), (53, (3, 4, 0, false)), (79, (1, 5, 0, false)), (82, (1, 4, 0, false)), (92, (1, 7, 0, false)), (95, (1, 6, 0, false)), (98, (1, 2, 2, true))], 
  [(11, (4, 1, 2, false)), (15, (4, 2, 2, false)), (24, (4, 0, 1, false)), (28, (9, 2, 0, false)), (50, (3, 4, 0, false))], 
  [(9, (5, 0, 2, true)), (15, (5, 1, 2, true)), (18, (5, 2, 2, true)), (21, (5, 3, 2, false)), (24, (5, 4, 2, false)), (27, (5, 5, 2, false)), (31, (5, 7, 0, false)), (41, (5, 6, 0, false)), (50, (3, 11, 2, true)), (59, (5, 8, 0, false))], 
  [(12, (6, 0, 2, true)), (18, (6, 3, 0, false)), (22, (6, 4, 2, true)), (26, (6, 1, 0, false)), (38, (6, 5, 0, false)), (41, (6, 2, 0, false)), (44, (6, 6, 0, false)), (47, (6, 10, 0, false)), (63, (3, 0, 0, false)), (66, (3, 3, 0, false)), (69, (6, 7, 0, false)), (72, (6, 8, 0, false)), (94, (6, 9, 0, false)), (118, (3, 4, 0, false)), (121, (3, 1, 0, false)), (128, (3, 6, 2, true)), (131, (3, 7, 2, true)), (134, (3, 2, 0, false)), (143, (3, 10, 2, true)), (146, (3, 11, 2, true)), (156, (6, 11, 3, false)), (160, (3, 12, 2, true)), (164, (1, 3, 0, false)), (172, (1, 6, 0, false)), (175, (1, 7, 0, false)), (178, (1, 4, 0, false)), (181, (1, 5, 0, false))], 
  [(9, (7, 0, 2, true)), (15, (7, 1, 2, true)), (18, (7, 2, 2, true)), (21, (7, 3, 2, true)), (30, (7, 4, 0, false)), (34, (7, 5, 0, false)), (37, (7, 6, 0, false)), (46, (3, 8, 2, true)), (49, (3, 5, 2, true)), (55, (3, 10, 2, true)), (65, (3, 9, 2, true)), (76, (3, 11, 2, true)), (108, (7, 7, 0, false)), (111, (9, 2, 0, false)), (135, (3, 4, 0, false))], 
  [(9, (8, 0, 2, true)), (15, (8, 1, 2, true)), (18, (8, 2, 2, true))], 
  [(9, (9, 0, 2, true)), (15, (9, 2, 0, false)), (19, (9, 1, 0, false))], 
  [(9, (10, 0, 2, true)), (15, (3, 2, 0, false)), (27, (3, 1, 0, false))], 
  [(10, (11, 0, 2, true)), (19, (11, 1, 2, true)), (26, (11, 2, 2, true)), (30, (11, 3, 2, true)), (33, (11, 4, 2, true)), (39, (11, 7, 2, true)), (43, (11, 8, 2, true)), (47, (11, 9, 2, true)), (53, (11, 11, 2, true)), (60, (11, 12, 2, true)), (67, (11, 13, 2, true)), (74, (11, 14, 2, true)), (81, (11, 15, 2, true)), (88, (11, 16, 2, true)), (93, (6, 1, 0, false)), (111, (6, 2, 0, false)), (114, (6, 0, 2, true)), (126, (3, 3, 0, false)), (129, (6, 3, 0, false)), (136, (7, 0, 2, true)), (140, (3, 6, 2, true)), (143, (3, 7, 2, true)), (146, (7, 1, 2, true)), (152, (3, 9, 2, true)), (155, (7, 2, 2, true)), (158, (3, 11, 2, true)), (165, (7, 3, 2, true)), (173, (7, 4, 0, false)), (180, (7, 6, 0, false)), (228, (11, 6, 0, false)), (231, (11, 5, 0, false)), (250, (7, 7, 0, false)), (266, (2, 0, 2, true)), (269, (2, 1, 2, true)), (282, (3, 0, 0, false)), (307, (2, 3, 2, true)), (313, (10, 0, 2, true)), (324, (3, 2, 0, false)), (327, (3, 1, 0, false)), (343, (8, 0, 2, true)), (346, (8, 1, 2, true)), (404, (4, 0, 1, false)), (424, (9, 2, 0, false)), (427, (11, 10, 0, false)), (433, (7, 5, 0, false)), (448, (2, 2, 2, true))], 
  [(1, (12, 0, 0, false)), (13, (12, 1, 2, true)), (17, (12, 2, 2, true)), (21, (12, 3, 2, true)), (24, (12, 4, 2, true)), (27, (12, 14, 0, false)), (30, (12, 16, 2, true)), (33, (12, 17, 2, true)), (36, (12, 18, 2, true)), (39, (12, 21, 2, true)), (42, (12, 22, 2, true)), (45, (12, 23, 2, true)), (48, (12, 24, 2, true)), (51, (12, 25, 2, true)), (54, (12, 26, 0, false)), (57, (12, 27, 2, true)), (60, (12, 28, 2, true)), (63, (12, 30, 2, true)), (66, (12, 31, 2, true)), (69, (12, 32, 2, true)), (72, (12, 33, 2, true)), (75, (12, 35, 2, true)), (78, (12, 36, 2, true)), (81, (12, 37, 2, true)), (85, (12, 38, 2, true)), (88, (12, 39, 2, true)), (91, (12, 40, 2, true)), (94, (12, 41, 2, true)), (101, (12, 5, 0, false)), (104, (12, 8, 0, false)), (119, (12, 6, 0, false)), (122, (12, 7, 0, false)), (129, (12, 9, 0, false)), (142, (12, 10, 0, false)), (147, (12, 11, 0, false)), (150, (12, 12, 0, false)), (167, (12, 15, 0, false)), (228, (12, 13, 0, false)), (338, (12, 19, 0, false)), (369, (12, 20, 0, false)), (409, (12, 29, 0, false)), (425, (12, 34, 0, false))], 
  [], 
  [], 
  [], 
  []]
def pm_fr (o ix : Nat) : Option ((Nat × Nat × Nat × Bool)) := (pm_frL.getD o []).lookup ix
def pm_kcL : List (List (Nat × Value)) := [
  [], 
  [(63, .int (1000000)), (66, .int (-1000000))], 
  [], 
  [], 
  [], 
  [], 
  [(97, .ref 4001)], 
  [(134, .int (1103515245))], 
  [], 
  [], 
  [(54, .int (-99000003))], 
  [(168, .int (-99000002)), (386, .int (-99000003))], 
  [(259, .int (-99000002)), (271, .int (1103515245)), (403, .int (-268435456)), (421, .int (268435456)), (459, .int (-99000003)), (107, .ref 4002), (145, .ref 4003)], 
  [], 
  [(265, .int (1431655765)), (266, .int (858993459)), (267, .int (252645135))], 
  [], 
  []]
def pm_kc (o ix : Nat) : Option (Value) := (pm_kcL.getD o []).lookup ix
def pm_klL : List (List (Nat × Int64)) := [
  [], 
  [(61, (1000000)), (64, (-1000000))], 
  [], 
  [], 
  [(57, (10)), (59, (100))], 
  [], 
  [], 
  [(79, (-1)), (85, (400)), (87, (20)), (89, (100))], 
  [], 
  [(32, (-7))], 
  [], 
  [(391, (-2)), (418, (-7)), (446, (10))], 
  [(235, (1000000)), (237, (-1000000)), (313, (9)), (315, (99)), (320, (10)), (322, (-1)), (324, (19)), (326, (100)), (328, (199)), (330, (200)), (332, (299)), (334, (300)), (336, (399)), (347, (3)), (361, (40)), (407, (5)), (447, (2)), (468, (-2)), (480, (-7)), (486, (16))], 
  [(183, (4294967295))], 
  [], 
  [], 
  []]
def pm_kl (o ix : Nat) : Option (Int64) := (pm_klL.getD o []).lookup ix
def pm_cnL : List (List (Nat × Nat)) := [
  [], 
  [], 
  [], 
  [(37, 1)], 
  [], 
  [], 
  [(9, 3)], 
  [], 
  [], 
  [], 
  [], 
  [(7, 6), (16, 3), (23, 7), (37, 9), (50, 0), (57, 2), (64, 10), (71, 8), (78, 5), (85, 4)], 
  [], 
  [(7, 11), (10, 12)], 
  [], 
  [], 
  []]
def pm_cn (o ix : Nat) : Option (Nat) := (pm_cnL.getD o []).lookup ix
def pm_anL : List (List (Nat × Nat)) := [
  [], 
  [], 
  [], 
  [], 
  [], 
  [], 
  [], 
  [], 
  [], 
  [], 
  [], 
  [(16, 5), (23, 3), (37, 4)], 
  [], 
  [], 
  [], 
  [], 
  []]
def pm_an (o ix : Nat) : Option (Nat) := (pm_anL.getD o []).lookup ix
def pm_mvL : List (List (Nat × Nat)) := [
  [(15, 31), (21, 28), (29, 32), (33, 2)], 
  [(49, 11)], 
  [(40, 97), (49, 99), (56, 19), (60, 35), (66, 31), (72, 2), (81, 21), (85, 22), (103, 18)], 
  [(56, 6), (65, 9), (75, 28), (85, 33), (89, 10)], 
  [(34, 108), (38, 90), (44, 34), (53, 39)], 
  [(35, 90), (44, 31), (70, 46), (79, 45), (82, 49), (86, 47), (89, 34)], 
  [(50, 24), (53, 55), (56, 62), (60, 63), (79, 57), (85, 59), (91, 60), (108, 66), (111, 67), (114, 69), (124, 25), (137, 26), (140, 68), (149, 27), (152, 29), (169, 70), (184, 71), (187, 7), (190, 72), (193, 73), (196, 74), (200, 75), (203, 76), (206, 8), (209, 77), (212, 78), (215, 79)], 
  [(40, 28), (52, 31), (58, 99), (62, 82), (68, 32), (72, 34), (81, 92), (91, 84), (95, 87), (98, 85), (102, 89), (105, 91), (116, 108), (120, 96), (130, 93), (144, 94), (147, 35)], 
  [(21, 82), (27, 103), (31, 104), (34, 2), (40, 105)], 
  [(28, 109), (34, 113), (38, 107), (42, 108)], 
  [(30, 116), (40, 2), (51, 120)], 
  [(97, 53), (101, 54), (104, 64), (108, 65), (117, 30), (121, 81), (123, 124), (132, 28), (149, 31), (161, 82), (169, 32), (176, 34), (183, 131), (186, 83), (189, 84), (193, 133), (196, 85), (200, 86), (209, 87), (212, 88), (215, 89), (218, 90), (221, 91), (224, 92), (240, 141), (243, 107), (246, 95), (253, 97), (256, 143), (259, 98), (262, 146), (272, 1), (276, 15), (278, 16), (285, 17), (289, 18), (293, 150), (296, 109), (299, 152), (303, 20), (310, 115), (316, 117), (320, 118), (330, 3), (333, 4), (336, 2), (339, 102), (349, 162), (352, 164), (355, 44), (358, 45), (361, 48), (364, 50), (367, 51), (370, 168), (373, 169), (380, 173), (383, 36), (387, 119), (393, 176), (396, 38), (400, 40), (412, 42), (415, 111), (420, 112), (430, 100), (436, 35), (439, 151), (443, 108), (451, 110), (454, 170)], 
  [(125, 190), (136, 192), (153, 195), (156, 189), (159, 196), (170, 208), (173, 209), (176, 210), (179, 205), (182, 194), (185, 211), (188, 212), (191, 207), (194, 206), (197, 214), (200, 213), (203, 197), (207, 203), (210, 202), (213, 200), (216, 201), (219, 204), (222, 198), (225, 199), (231, 219), (243, 223), (246, 227), (250, 217), (253, 220), (256, 222), (260, 226), (263, 232), (267, 243), (272, 250), (275, 248), (278, 249), (281, 229), (284, 230), (287, 233), (290, 235), (294, 236), (300, 239), (303, 240), (306, 242), (309, 244), (317, 247), (341, 255), (344, 256), (349, 253), (352, 254), (355, 257), (358, 258), (363, 261), (366, 265), (372, 263), (375, 264), (378, 269), (381, 270), (384, 271), (387, 272), (394, 276), (397, 277), (400, 275), (404, 281), (412, 285), (415, 286), (418, 284), (422, 294), (428, 293), (431, 295), (435, 291), (438, 292), (441, 300), (444, 302), (449, 299), (452, 301), (455, 306), (460, 305), (470, 309), (473, 310), (488, 321)], 
  [(13, 122), (17, 186), (18, 123), (22, 187), (23, 125), (26, 215), (27, 126), (31, 216), (32, 127), (35, 218), (36, 128), (39, 221), (40, 129), (43, 225), (44, 130), (47, 228), (48, 132), (51, 231), (52, 134), (55, 234), (56, 135), (59, 238), (60, 136), (63, 241), (64, 137), (67, 245), (68, 138), (71, 246), (72, 139), (75, 251), (76, 140), (79, 252), (80, 142), (83, 259), (84, 144), (87, 260), (88, 145), (91, 262), (92, 147), (95, 266), (96, 148), (99, 267), (100, 149), (103, 268), (104, 153), (107, 273), (108, 154), (111, 274), (112, 155), (116, 279), (117, 156), (120, 280), (121, 157), (124, 282), (125, 158), (128, 283), (129, 159), (132, 287), (133, 160), (136, 288), (137, 161), (140, 289), (141, 163), (144, 290), (145, 165), (149, 296), (150, 166), (153, 297), (154, 167), (157, 298), (158, 171), (161, 303), (162, 172), (165, 304), (166, 174), (169, 307), (170, 175), (174, 308), (175, 177), (178, 313), (179, 178), (182, 314), (185, 179), (189, 315), (190, 180), (193, 317), (194, 181), (197, 318), (198, 182), (201, 319), (202, 183), (205, 320)], 
  [], 
  [], 
  []]
def pm_mv (o ix : Nat) : Option (Nat) := (pm_mvL.getD o []).lookup ix
def pm_msL : List (List (Nat × Nat)) := [
  [], 
  [(37, 323), (53, 12), (57, 13)], 
  [(95, 324), (100, 325)], 
  [(69, 323), (101, 324)], 
  [(18, 329)], 
  [(53, 323), (61, 327), (67, 326), (74, 322)], 
  [(29, 323), (35, 324), (75, 56), (82, 58), (88, 61)], 
  [(124, 324), (138, 326)], 
  [], 
  [(22, 329)], 
  [(21, 327), (34, 324), (45, 322)], 
  [(204, 322), (234, 325), (377, 323), (408, 41)], 
  [(97, 185), (132, 191), (139, 193), (163, 188), (239, 224), (297, 237), (390, 278), (464, 312), (476, 311), (482, 316)], 
  [], 
  [], 
  [], 
  [(13, 328)]]
def pm_ms (o ix : Nat) : Option (Nat) := (pm_msL.getD o []).lookup ix
def pm_miL : List (List (Nat × Nat)) := [
  [], 
  [], 
  [], 
  [(39, 5)], 
  [], 
  [], 
  [(11, 23)], 
  [], 
  [], 
  [], 
  [], 
  [(9, 52), (18, 23), (25, 80), (52, 0), (59, 14), (66, 114), (73, 101), (80, 43), (87, 37), (92, 106)], 
  [], 
  [(9, 121), (12, 184)], 
  [], 
  [], 
  []]
def pm_mi (o ix : Nat) : Option (Nat) := (pm_miL.getD o []).lookup ix
def pm_svL : List (List (Nat × Nat)) := [
  [], 
  [], 
  [], 
  [], 
  [], 
  [], 
  [(99, 0), (104, 1)], 
  [], 
  [], 
  [], 
  [], 
  [], 
  [(109, 0), (115, 1)], 
  [], 
  [], 
  [], 
  []]
def pm_sv (o ix : Nat) : Option (Nat) := (pm_svL.getD o []).lookup ix
def pm_acqL : List (List (Nat × Bool)) := [
  [], 
  [(43, true)], 
  [(89, true)], 
  [(59, true)], 
  [], 
  [], 
  [], 
  [(24, true)], 
  [], 
  [], 
  [], 
  [], 
  [], 
  [], 
  [], 
  [], 
  []]
def pm_acq (o ix : Nat) : Option (Bool) := (pm_acqL.getD o []).lookup ix
def pm_oiqL : List (List (Nat × Bool)) := [
  [(3, true)], 
  [(3, true)], 
  [(3, true)], 
  [(3, true)], 
  [(3, true)], 
  [(3, true)], 
  [(3, true)], 
  [(3, true)], 
  [(3, true)], 
  [(3, true)], 
  [(3, true)], 
  [(1, true)], 
  [(7, true)], 
  [], 
  [], 
  [], 
  []]
def pm_oiq (o ix : Nat) : Option (Bool) := (pm_oiqL.getD o []).lookup ix
def pm_ac (o ix : Nat) : Bool := (pm_acq o ix).getD false
def pm_oi (o ix : Nat) : Bool := (pm_oiq o ix).getD false
/-- bytes, owner, answer, a maker, places, parameters, name -/
def pm_T : List (ByteArray × Nat × Option FieldType × Bool × Nat × Nat × MethodName) := [
  (prog_2_method_1_code, 0, none, true, 1, 0, ⟨"GampLine$Claims", "<init>", "()V"⟩),
  (prog_2_method_2_code, 0, none, false, 5, 2, ⟨"GampLine$Claims", "gather", "(LGampLine$Line;LGampLine$State;)V"⟩),
  (prog_2_method_3_code, 0, some .int, false, 3, 2, ⟨"GampLine$Claims", "of", "(II)I"⟩),
  (prog_2_method_4_code, 0, some .boolean, false, 4, 2, ⟨"GampLine$Claims", "someBy", "(II)Z"⟩),
  (prog_2_method_5_code, 0, some .int, false, 7, 3, ⟨"GampLine$Claims", "mostOf", "(III)I"⟩),
  (prog_3_method_1_code, 1, none, true, 1, 0, ⟨"GampLine$Laws", "<init>", "()V"⟩),
  (prog_3_method_2_code, 1, none, false, 1, 0, ⟨"GampLine$Laws", "clear", "()V"⟩),
  (prog_3_method_4_code, 1, some .int, false, 4, 2, ⟨"GampLine$Laws", "add", "(II)I"⟩),
  (prog_3_method_5_code, 1, none, false, 2, 1, ⟨"GampLine$Laws", "aimToEnd", "(I)V"⟩),
  (prog_3_method_3_code, 1, none, false, 2, 1, ⟨"GampLine$Laws", "become", "(LGampLine$Laws;)V"⟩),
  (prog_3_method_6_code, 1, some .int, false, 8, 2, ⟨"GampLine$Laws", "worth", "(II)I"⟩),
  (prog_3_method_7_code, 1, some .int, false, 2, 1, ⟨"GampLine$Laws", "factAt", "(I)I"⟩),
  (prog_3_method_8_code, 1, some .long, false, 5, 3, ⟨"GampLine$Laws", "joined", "(IJJ)J"⟩),
  (prog_3_method_9_code, 1, some .int, false, 2, 1, ⟨"GampLine$Laws", "bounded", "(J)I"⟩),
  (prog_4_method_1_code, 2, none, true, 1, 0, ⟨"GampLine$Left", "<init>", "()V"⟩),
  (prog_4_method_2_code, 2, none, false, 2, 1, ⟨"GampLine$Left", "begin", "(LGampLine$State;)V"⟩),
  (prog_4_method_3_code, 2, none, false, 5, 2, ⟨"GampLine$Left", "add", "(ILGampLine$State;)V"⟩),
  (prog_4_method_4_code, 2, none, false, 3, 2, ⟨"GampLine$Left", "start", "(II)V"⟩),
  (prog_4_method_5_code, 2, none, false, 7, 2, ⟨"GampLine$Left", "travel", "(LGampLine$Line;LGampLine$Claims;)V"⟩),
  (prog_4_method_6_code, 2, some .boolean, false, 6, 3, ⟨"GampLine$Left", "arrives", "(LGampLine$Line;LGampLine$Claims;I)Z"⟩),
  (prog_4_method_7_code, 2, some .int, false, 7, 3, ⟨"GampLine$Left", "searchPlans", "(LGampLine$Line;LGampLine$Claims;Z)I"⟩),
  (prog_4_method_8_code, 2, none, false, 5, 2, ⟨"GampLine$Left", "spell", "(II)V"⟩),
  (prog_4_method_9_code, 2, some .boolean, false, 4, 2, ⟨"GampLine$Left", "wouldDo", "(LGampLine$Line;LGampLine$Claims;)Z"⟩),
  (prog_5_method_1_code, 3, none, true, 1, 0, ⟨"GampLine$Line", "<init>", "()V"⟩),
  (prog_5_method_2_code, 3, none, false, 1, 0, ⟨"GampLine$Line", "clear", "()V"⟩),
  (prog_5_method_8_code, 3, some .int, false, 3, 1, ⟨"GampLine$Line", "addThing", "(I)I"⟩),
  (prog_5_method_9_code, 3, some .int, false, 3, 1, ⟨"GampLine$Line", "addPerson", "(I)I"⟩),
  (prog_5_method_10_code, 3, some .boolean, false, 2, 1, ⟨"GampLine$Line", "canBeHeld", "(I)Z"⟩),
  (prog_5_method_5_code, 3, some .boolean, false, 2, 1, ⟨"GampLine$Line", "hasThing", "(I)Z"⟩),
  (prog_5_method_11_code, 3, none, false, 4, 2, ⟨"GampLine$Line", "giveTo", "(II)V"⟩),
  (prog_5_method_3_code, 3, none, false, 2, 1, ⟨"GampLine$Line", "become", "(LGampLine$Line;)V"⟩),
  (prog_5_method_6_code, 3, some .boolean, false, 2, 1, ⟨"GampLine$Line", "hasPerson", "(I)Z"⟩),
  (prog_5_method_12_code, 3, some .int, false, 4, 3, ⟨"GampLine$Line", "claimBy", "(III)I"⟩),
  (prog_5_method_14_code, 3, none, false, 4, 3, ⟨"GampLine$Line", "tellFacts", "(III)V"⟩),
  (prog_5_method_13_code, 3, some .int, false, 6, 5, ⟨"GampLine$Line", "burdenOf", "(IIIII)I"⟩),
  (prog_5_method_4_code, 3, some .boolean, false, 2, 1, ⟨"GampLine$Line", "hasStation", "(I)Z"⟩),
  (prog_5_method_7_code, 3, some .boolean, false, 2, 1, ⟨"GampLine$Line", "hasSet", "(I)Z"⟩),
  (prog_6_method_1_code, 4, none, true, 1, 0, ⟨"GampLine$Odds", "<init>", "()V"⟩),
  (prog_6_method_2_code, 4, none, false, 9, 4, ⟨"GampLine$Odds", "spread", "(LGampLine$Line;LGampLine$State;LGampLine$Tray;I)V"⟩),
  (prog_6_method_3_code, 4, none, false, 4, 2, ⟨"GampLine$Odds", "add", "(IJ)V"⟩),
  (prog_6_method_4_code, 4, some .long, false, 5, 1, ⟨"GampLine$Odds", "waysUpTo", "(I)J"⟩),
  (prog_6_method_6_code, 4, some .long, false, 11, 2, ⟨"GampLine$Odds", "commonDivisor", "(JJ)J"⟩),
  (prog_6_method_5_code, 4, some .int, false, 5, 1, ⟨"GampLine$Odds", "leastFor", "(I)I"⟩),
  (prog_7_method_1_code, 5, none, true, 1, 0, ⟨"GampLine$Opener", "<init>", "()V"⟩),
  (prog_7_method_2_code, 5, none, false, 4, 3, ⟨"GampLine$Opener", "begin", "(LGampLine$Line;LGampLine$State;I)V"⟩),
  (prog_7_method_3_code, 5, some .int, false, 3, 1, ⟨"GampLine$Opener", "fewestDays", "(I)I"⟩),
  (prog_7_method_8_code, 5, some .int, false, 10, 3, ⟨"GampLine$Opener", "furtherDays", "(III)I"⟩),
  (prog_7_method_9_code, 5, some .int, false, 4, 2, ⟨"GampLine$Opener", "burdenAt", "(II)I"⟩),
  (prog_7_method_6_code, 5, some .int, false, 6, 1, ⟨"GampLine$Opener", "findOrder", "(I)I"⟩),
  (prog_7_method_7_code, 5, some .boolean, false, 9, 2, ⟨"GampLine$Opener", "reachesBehind", "(II)Z"⟩),
  (prog_7_method_5_code, 5, some .int, false, 2, 1, ⟨"GampLine$Opener", "orderAt", "(I)I"⟩),
  (prog_7_method_4_code, 5, some .int, false, 4, 1, ⟨"GampLine$Opener", "mostInADay", "(I)I"⟩),
  (prog_8_method_1_code, 6, none, true, 1, 0, ⟨"GampLine$Reader", "<init>", "()V"⟩),
  (prog_8_method_2_code, 6, none, false, 3, 1, ⟨"GampLine$Reader", "append", "(I)V"⟩),
  (prog_8_method_3_code, 6, none, false, 2, 1, ⟨"GampLine$Reader", "begin", "(I)V"⟩),
  (prog_8_method_6_code, 6, none, false, 1, 0, ⟨"GampLine$Reader", "step", "()V"⟩),
  (prog_8_method_7_code, 6, some .boolean, false, 1, 1, ⟨"GampLine$Reader", "isLetter", "(I)Z"⟩),
  (prog_8_method_11_code, 6, some .int, false, 8, 2, ⟨"GampLine$Reader", "wordFrom", "(II)I"⟩),
  (prog_8_method_8_code, 6, some .boolean, false, 1, 1, ⟨"GampLine$Reader", "isDigit", "(I)Z"⟩),
  (prog_8_method_10_code, 6, none, false, 1, 0, ⟨"GampLine$Reader", "readDigits", "()V"⟩),
  (prog_8_method_5_code, 6, none, false, 2, 1, ⟨"GampLine$Reader", "fail", "(I)V"⟩),
  (prog_8_method_9_code, 6, some .boolean, false, 1, 1, ⟨"GampLine$Reader", "isSign", "(I)Z"⟩),
  (prog_8_method_12_code, 6, none, false, 2, 1, ⟨"GampLine$Reader", "expect", "(I)V"⟩),
  (prog_8_method_13_code, 6, some .int, false, 4, 2, ⟨"GampLine$Reader", "readNumber", "(II)I"⟩),
  (prog_8_method_4_code, 6, some .boolean, false, 1, 0, ⟨"GampLine$Reader", "goesOn", "()Z"⟩),
  (prog_8_method_14_code, 6, none, false, 1, 0, ⟨"GampLine$Reader", "readLine", "()V"⟩),
  (prog_8_method_15_code, 6, none, false, 4, 0, ⟨"GampLine$Reader", "readThing", "()V"⟩),
  (prog_8_method_16_code, 6, none, false, 3, 0, ⟨"GampLine$Reader", "readPerson", "()V"⟩),
  (prog_8_method_17_code, 6, none, false, 3, 1, ⟨"GampLine$Reader", "readFlag", "(I)V"⟩),
  (prog_8_method_18_code, 6, none, false, 3, 1, ⟨"GampLine$Reader", "readLaw", "(Z)V"⟩),
  (prog_8_method_19_code, 6, none, false, 3, 0, ⟨"GampLine$Reader", "readSum", "()V"⟩),
  (prog_8_method_20_code, 6, none, false, 2, 0, ⟨"GampLine$Reader", "readTerm", "()V"⟩),
  (prog_8_method_21_code, 6, none, false, 2, 0, ⟨"GampLine$Reader", "readAtom", "()V"⟩),
  (prog_8_method_22_code, 6, some .int, false, 2, 1, ⟨"GampLine$Reader", "factOf", "(I)I"⟩),
  (prog_8_method_23_code, 6, some .boolean, false, 1, 0, ⟨"GampLine$Reader", "goesIn", "()Z"⟩),
  (prog_8_method_24_code, 6, none, false, 3, 0, ⟨"GampLine$Reader", "readChoice", "()V"⟩),
  (prog_8_method_25_code, 6, none, false, 2, 0, ⟨"GampLine$Reader", "readTruth", "()V"⟩),
  (prog_8_method_26_code, 6, none, false, 2, 0, ⟨"GampLine$Reader", "readBoth", "()V"⟩),
  (prog_8_method_27_code, 6, none, false, 1, 0, ⟨"GampLine$Reader", "readUnit", "()V"⟩),
  (prog_8_method_28_code, 6, none, false, 2, 0, ⟨"GampLine$Reader", "readComparison", "()V"⟩),
  (prog_9_method_1_code, 7, none, true, 1, 0, ⟨"GampLine$State", "<init>", "()V"⟩),
  (prog_9_method_3_code, 7, none, false, 3, 1, ⟨"GampLine$State", "begin", "(LGampLine$Line;)V"⟩),
  (prog_9_method_4_code, 7, some .int, false, 3, 1, ⟨"GampLine$State", "heldThing", "(I)I"⟩),
  (prog_9_method_2_code, 7, none, false, 2, 1, ⟨"GampLine$State", "become", "(LGampLine$State;)V"⟩),
  (prog_9_method_11_code, 7, some .int, false, 4, 2, ⟨"GampLine$State", "tryLeave", "(LGampLine$Line;I)I"⟩),
  (prog_9_method_12_code, 7, some .int, false, 4, 3, ⟨"GampLine$State", "tryFetch", "(LGampLine$Line;II)I"⟩),
  (prog_9_method_8_code, 7, some .int, false, 3, 0, ⟨"GampLine$State", "officeBits", "()I"⟩),
  (prog_9_method_13_code, 7, some .int, false, 5, 2, ⟨"GampLine$State", "tryOpen", "(LGampLine$Line;I)I"⟩),
  (prog_9_method_7_code, 7, some .int, false, 2, 1, ⟨"GampLine$State", "borneBy", "(I)I"⟩),
  (prog_9_method_14_code, 7, some .int, false, 6, 3, ⟨"GampLine$State", "trySwap", "(LGampLine$Line;II)I"⟩),
  (prog_9_method_6_code, 7, some .int, false, 2, 1, ⟨"GampLine$State", "markOf", "(I)I"⟩),
  (prog_9_method_15_code, 7, some .int, false, 4, 3, ⟨"GampLine$State", "tryMark", "(LGampLine$Line;II)I"⟩),
  (prog_9_method_20_code, 7, some .int, false, 4, 1, ⟨"GampLine$State", "passDay", "(LGampLine$Line;)I"⟩),
  (prog_9_method_19_code, 7, some .int, false, 1, 0, ⟨"GampLine$State", "draw", "()I"⟩),
  (prog_9_method_21_code, 7, some .int, false, 8, 3, ⟨"GampLine$State", "nextPlace", "(LGampLine$Line;II)I"⟩),
  (prog_9_method_17_code, 7, some .int, false, 4, 2, ⟨"GampLine$State", "doAll", "(LGampLine$Line;LGampLine$Tray;)I"⟩),
  (prog_9_method_16_code, 7, some .int, false, 6, 2, ⟨"GampLine$State", "attempt", "(LGampLine$Line;J)I"⟩),
  (prog_9_method_10_code, 7, some .int, false, 3, 0, ⟨"GampLine$State", "holderBits", "()I"⟩),
  (prog_9_method_18_code, 7, some .int, false, 4, 1, ⟨"GampLine$State", "seasonDeed", "(LGampLine$Line;)I"⟩),
  (prog_9_method_5_code, 7, some .int, false, 2, 1, ⟨"GampLine$State", "holderOf", "(I)I"⟩),
  (prog_9_method_9_code, 7, some .int, false, 3, 0, ⟨"GampLine$State", "heldBits", "()I"⟩),
  (prog_10_method_1_code, 8, none, true, 1, 0, ⟨"GampLine$Trades", "<init>", "()V"⟩),
  (prog_10_method_2_code, 8, some .int, false, 8, 3, ⟨"GampLine$Trades", "run", "(LGampLine$Line;LGampLine$State;LGampLine$Claims;)I"⟩),
  (prog_10_method_3_code, 8, some .int, false, 8, 3, ⟨"GampLine$Trades", "choice", "(LGampLine$Claims;II)I"⟩),
  (prog_10_method_4_code, 8, some .int, false, 4, 1, ⟨"GampLine$Trades", "settle", "(I)I"⟩),
  (prog_10_method_5_code, 8, some .boolean, false, 4, 1, ⟨"GampLine$Trades", "isOnRing", "(I)Z"⟩),
  (prog_11_method_1_code, 9, none, true, 1, 0, ⟨"GampLine$Tray", "<init>", "()V"⟩),
  (prog_11_method_2_code, 9, some .boolean, false, 1, 0, ⟨"GampLine$Tray", "isMissing", "()Z"⟩),
  (prog_11_method_5_code, 9, some .long, false, 2, 1, ⟨"GampLine$Tray", "at", "(I)J"⟩),
  (prog_11_method_3_code, 9, some .boolean, false, 2, 1, ⟨"GampLine$Tray", "hasPlace", "(I)Z"⟩),
  (prog_11_method_8_code, 9, some .int, false, 4, 2, ⟨"GampLine$Tray", "codeForNumbers", "(II)I"⟩),
  (prog_11_method_4_code, 9, none, false, 3, 2, ⟨"GampLine$Tray", "beginAnew", "(II)V"⟩),
  (prog_11_method_6_code, 9, some .long, false, 4, 2, ⟨"GampLine$Tray", "put", "(IJ)J"⟩),
  (prog_11_method_7_code, 9, some .long, false, 3, 1, ⟨"GampLine$Tray", "cut", "(J)J"⟩),
  (prog_12_method_1_code, 10, none, true, 1, 0, ⟨"GampLine$Whose", "<init>", "()V"⟩),
  (prog_12_method_2_code, 10, none, false, 7, 2, ⟨"GampLine$Whose", "weighMatchings", "(LGampLine$Line;LGampLine$Claims;)V"⟩),
  (prog_12_method_3_code, 10, some .int, false, 5, 4, ⟨"GampLine$Whose", "sumWith", "(LGampLine$Claims;III)I"⟩),
  (prog_12_method_4_code, 10, some .int, false, 8, 3, ⟨"GampLine$Whose", "givenTo", "(ILGampLine$Line;LGampLine$Claims;)I"⟩),
  (prog_12_method_5_code, 10, some .int, false, 7, 2, ⟨"GampLine$Whose", "waysForAll", "(LGampLine$Line;LGampLine$Claims;)I"⟩),
  (prog_12_method_6_code, 10, none, false, 7, 4, ⟨"GampLine$Whose", "playOut", "(LGampLine$Claims;III)V"⟩),
  (prog_12_method_7_code, 10, some .int, false, 7, 4, ⟨"GampLine$Whose", "bestTurn", "(LGampLine$Claims;III)I"⟩),
  (prog_1_method_1_code, 11, none, true, 2, 0, ⟨"GampLine", "<init>", "()V"⟩),
  (prog_1_method_2_code, 11, some .int, false, 6, 5, ⟨"GampLine", "feed", "(IIIII)I"⟩),
  (prog_1_method_3_code, 11, some .int, false, 3, 1, ⟨"GampLine", "line", "(I)I"⟩),
  (prog_1_method_49_code, 11, none, false, 1, 0, ⟨"GampLine", "forgetPast", "()V"⟩),
  (prog_1_method_4_code, 11, some .int, false, 2, 1, ⟨"GampLine", "fault", "(I)I"⟩),
  (prog_1_method_5_code, 11, some .int, false, 3, 2, ⟨"GampLine", "thing", "(II)I"⟩),
  (prog_1_method_6_code, 11, some .int, false, 3, 2, ⟨"GampLine", "person", "(II)I"⟩),
  (prog_1_method_7_code, 11, some .int, false, 3, 2, ⟨"GampLine", "claims", "(II)I"⟩),
  (prog_1_method_8_code, 11, some .int, false, 3, 2, ⟨"GampLine", "burden", "(II)I"⟩),
  (prog_1_method_9_code, 11, some .int, false, 3, 1, ⟨"GampLine", "seed", "(I)I"⟩),
  (prog_1_method_48_code, 11, none, false, 1, 0, ⟨"GampLine", "remember", "()V"⟩),
  (prog_1_method_10_code, 11, some .int, false, 4, 1, ⟨"GampLine", "leave", "(I)I"⟩),
  (prog_1_method_50_code, 11, some .int, false, 2, 1, ⟨"GampLine", "agreed", "(I)I"⟩),
  (prog_1_method_11_code, 11, some .int, false, 4, 2, ⟨"GampLine", "fetch", "(II)I"⟩),
  (prog_1_method_12_code, 11, some .int, false, 3, 1, ⟨"GampLine", "open", "(I)I"⟩),
  (prog_1_method_13_code, 11, some .int, false, 4, 2, ⟨"GampLine", "swap", "(II)I"⟩),
  (prog_1_method_14_code, 11, some .int, false, 5, 2, ⟨"GampLine", "mark", "(II)I"⟩),
  (prog_1_method_15_code, 11, some .int, false, 4, 1, ⟨"GampLine", "days", "(I)I"⟩),
  (prog_1_method_16_code, 11, some .int, false, 2, 1, ⟨"GampLine", "undo", "(I)I"⟩),
  (prog_1_method_17_code, 11, some .int, false, 4, 2, ⟨"GampLine", "judge", "(II)I"⟩),
  (prog_1_method_51_code, 11, some .boolean, false, 2, 1, ⟨"GampLine", "hasTray", "(I)Z"⟩),
  (prog_1_method_18_code, 11, some .int, false, 4, 1, ⟨"GampLine", "perform", "(I)I"⟩),
  (prog_1_method_52_code, 11, some .int, false, 2, 1, ⟨"GampLine", "trayCode", "(I)I"⟩),
  (prog_1_method_19_code, 11, some .int, false, 5, 2, ⟨"GampLine", "season", "(II)I"⟩),
  (prog_1_method_20_code, 11, some .int, false, 3, 2, ⟨"GampLine", "goes", "(II)I"⟩),
  (prog_1_method_53_code, 11, some .boolean, false, 3, 2, ⟨"GampLine", "canBeLeft", "(II)Z"⟩),
  (prog_1_method_21_code, 11, some .int, false, 3, 2, ⟨"GampLine", "takes", "(II)I"⟩),
  (prog_1_method_22_code, 11, some .int, false, 5, 2, ⟨"GampLine", "sources", "(II)I"⟩),
  (prog_1_method_23_code, 11, some .int, false, 4, 2, ⟨"GampLine", "plan", "(II)I"⟩),
  (prog_1_method_54_code, 11, some .int, false, 5, 1, ⟨"GampLine", "planCode", "(I)I"⟩),
  (prog_1_method_55_code, 11, some .boolean, false, 8, 2, ⟨"GampLine", "canPlan", "(LGampLine$Tray;I)Z"⟩),
  (prog_1_method_56_code, 11, none, false, 3, 1, ⟨"GampLine", "beginPlan", "(LGampLine$Tray;)V"⟩),
  (prog_1_method_24_code, 11, some .int, false, 3, 1, ⟨"GampLine", "plans", "(I)I"⟩),
  (prog_1_method_25_code, 11, some .int, false, 2, 1, ⟨"GampLine", "match", "(I)I"⟩),
  (prog_1_method_26_code, 11, some .int, false, 1, 0, ⟨"GampLine", "matchings", "()I"⟩),
  (prog_1_method_27_code, 11, some .int, false, 3, 0, ⟨"GampLine", "without", "()I"⟩),
  (prog_1_method_28_code, 11, some .int, false, 5, 2, ⟨"GampLine", "fetches", "(II)I"⟩),
  (prog_1_method_29_code, 11, some .int, false, 2, 1, ⟨"GampLine", "trade", "(I)I"⟩),
  (prog_1_method_30_code, 11, some .int, false, 1, 0, ⟨"GampLine", "rounds", "()I"⟩),
  (prog_1_method_31_code, 11, some .int, false, 3, 0, ⟨"GampLine", "traders", "()I"⟩),
  (prog_1_method_32_code, 11, some .int, false, 3, 0, ⟨"GampLine", "bargain", "()I"⟩),
  (prog_1_method_57_code, 11, some .boolean, false, 5, 2, ⟨"GampLine", "bothGain", "(II)Z"⟩),
  (prog_1_method_33_code, 11, some .int, false, 4, 2, ⟨"GampLine", "opening", "(II)I"⟩),
  (prog_1_method_58_code, 11, some .int, false, 3, 2, ⟨"GampLine", "openingCode", "(II)I"⟩),
  (prog_1_method_34_code, 11, some .int, false, 5, 3, ⟨"GampLine", "openedBy", "(III)I"⟩),
  (prog_1_method_35_code, 11, some .int, false, 4, 2, ⟨"GampLine", "inADay", "(II)I"⟩),
  (prog_1_method_36_code, 11, some .int, false, 4, 2, ⟨"GampLine", "marks", "(II)I"⟩),
  (prog_1_method_59_code, 11, some .int, false, 3, 2, ⟨"GampLine", "answersCode", "(II)I"⟩),
  (prog_1_method_61_code, 11, some .int, false, 5, 2, ⟨"GampLine", "marksBy", "(LGampLine$Tray;I)I"⟩),
  (prog_1_method_62_code, 11, some .boolean, false, 7, 3, ⟨"GampLine", "wouldAnswer", "(LGampLine$Tray;II)Z"⟩),
  (prog_1_method_37_code, 11, some .int, false, 10, 2, ⟨"GampLine", "show", "(II)I"⟩),
  (prog_1_method_38_code, 11, some .int, false, 4, 3, ⟨"GampLine", "game", "(III)I"⟩),
  (prog_1_method_63_code, 11, some .boolean, false, 3, 2, ⟨"GampLine", "canChoose", "(II)Z"⟩),
  (prog_1_method_39_code, 11, some .int, false, 5, 3, ⟨"GampLine", "picks", "(III)I"⟩),
  (prog_1_method_40_code, 11, some .long, false, 9, 3, ⟨"GampLine", "chance", "(III)J"⟩),
  (prog_1_method_60_code, 11, some .int, false, 3, 2, ⟨"GampLine", "chanceCode", "(II)I"⟩),
  (prog_1_method_41_code, 11, some .int, false, 5, 3, ⟨"GampLine", "bearing", "(III)I"⟩),
  (prog_1_method_42_code, 11, some .int, false, 4, 3, ⟨"GampLine", "numbers", "(III)I"⟩),
  (prog_1_method_43_code, 11, some .long, false, 6, 3, ⟨"GampLine", "write", "(IIJ)J"⟩),
  (prog_1_method_44_code, 11, some .int, false, 8, 3, ⟨"GampLine", "lists", "(III)I"⟩),
  (prog_1_method_45_code, 11, some .int, false, 2, 1, ⟨"GampLine", "image", "(I)I"⟩),
  (prog_1_method_46_code, 11, some .int, false, 2, 1, ⟨"GampLine", "restore", "(I)I"⟩),
  (prog_1_method_47_code, 11, some .int, false, 2, 1, ⟨"GampLine", "count", "(I)I"⟩),
  (prog_14_method_3_code, 12, none, true, 1, 0, ⟨"GampLineModel", "<init>", "()V"⟩),
  (prog_14_method_4_code, 12, none, false, 2, 1, ⟨"GampLineModel", "plain", "([I)V"⟩),
  (prog_14_method_5_code, 12, some .int, false, 8, 5, ⟨"GampLineModel", "feed", "(IIIII)I"⟩),
  (prog_14_method_33_code, 12, some .int, false, 3, 1, ⟨"GampLineModel", "line", "(I)I"⟩),
  (prog_14_method_2_code, 12, some .boolean, false, 6, 3, ⟨"GampLineModel", "within", "(JJJ)Z"⟩),
  (prog_14_method_10_code, 12, none, false, 2, 0, ⟨"GampLineModel", "next", "()V"⟩),
  (prog_14_method_6_code, 12, some .int, false, 2, 1, ⟨"GampLineModel", "see", "(I)I"⟩),
  (prog_14_method_7_code, 12, some .boolean, false, 1, 1, ⟨"GampLineModel", "isSmall", "(I)Z"⟩),
  (prog_14_method_9_code, 12, some .int, false, 4, 0, ⟨"GampLineModel", "keyAt", "()I"⟩),
  (prog_14_method_8_code, 12, some .boolean, false, 1, 1, ⟨"GampLineModel", "isDigit", "(I)Z"⟩),
  (prog_14_method_13_code, 12, some .boolean, false, 2, 1, ⟨"GampLineModel", "eats", "(I)Z"⟩),
  (prog_14_method_12_code, 12, some .boolean, false, 2, 1, ⟨"GampLineModel", "is", "(I)Z"⟩),
  (prog_14_method_11_code, 12, none, false, 2, 1, ⟨"GampLineModel", "fails", "(I)V"⟩),
  (prog_14_method_14_code, 12, some .int, false, 4, 2, ⟨"GampLineModel", "takesN", "(II)I"⟩),
  (prog_14_method_32_code, 12, none, false, 1, 0, ⟨"GampLineModel", "ends", "()V"⟩),
  (prog_14_method_31_code, 12, none, false, 1, 0, ⟨"GampLineModel", "readLine", "()V"⟩),
  (prog_14_method_26_code, 12, none, false, 3, 0, ⟨"GampLineModel", "readThing", "()V"⟩),
  (prog_14_method_29_code, 12, none, false, 2, 0, ⟨"GampLineModel", "readPerson", "()V"⟩),
  (prog_14_method_28_code, 12, some .boolean, false, 2, 1, ⟨"GampLineModel", "readFlag", "(I)Z"⟩),
  (prog_14_method_27_code, 12, none, false, 4, 1, ⟨"GampLineModel", "readHolds", "(I)V"⟩),
  (prog_14_method_30_code, 12, none, false, 3, 1, ⟨"GampLineModel", "readLaw", "(I)V"⟩),
  (prog_14_method_22_code, 12, none, false, 3, 1, ⟨"GampLineModel", "readSum", "(I)V"⟩),
  (prog_14_method_21_code, 12, none, false, 2, 1, ⟨"GampLineModel", "readTerm", "(I)V"⟩),
  (prog_14_method_19_code, 12, none, false, 2, 1, ⟨"GampLineModel", "readAtom", "(I)V"⟩),
  (prog_14_method_17_code, 12, none, false, 2, 1, ⟨"GampLineModel", "codes", "(I)V"⟩),
  (prog_14_method_16_code, 12, some .int, false, 2, 1, ⟨"GampLineModel", "wordOf", "(I)I"⟩),
  (prog_14_method_18_code, 12, some .boolean, false, 2, 1, ⟨"GampLineModel", "goesIn", "(I)Z"⟩),
  (prog_14_method_20_code, 12, none, false, 2, 1, ⟨"GampLineModel", "readIf", "(I)V"⟩),
  (prog_14_method_25_code, 12, none, false, 2, 1, ⟨"GampLineModel", "readTruth", "(I)V"⟩),
  (prog_14_method_24_code, 12, none, false, 2, 1, ⟨"GampLineModel", "readBoth", "(I)V"⟩),
  (prog_14_method_23_code, 12, none, false, 3, 1, ⟨"GampLineModel", "readUnit", "(I)V"⟩),
  (prog_14_method_34_code, 12, some .int, false, 2, 1, ⟨"GampLineModel", "fault", "(I)I"⟩),
  (prog_14_method_46_code, 12, some .int, false, 3, 2, ⟨"GampLineModel", "thing", "(II)I"⟩),
  (prog_14_method_36_code, 12, some .boolean, false, 3, 1, ⟨"GampLineModel", "isThing", "(J)Z"⟩),
  (prog_14_method_47_code, 12, some .int, false, 3, 2, ⟨"GampLineModel", "person", "(II)I"⟩),
  (prog_14_method_37_code, 12, some .boolean, false, 3, 1, ⟨"GampLineModel", "isPerson", "(J)Z"⟩),
  (prog_14_method_40_code, 12, some .int, false, 3, 1, ⟨"GampLineModel", "heldBy", "(I)I"⟩),
  (prog_14_method_48_code, 12, some .int, false, 3, 2, ⟨"GampLineModel", "claims", "(II)I"⟩),
  (prog_14_method_43_code, 12, some .int, false, 3, 2, ⟨"GampLineModel", "claimsOf", "(II)I"⟩),
  (prog_14_method_42_code, 12, some .int, false, 7, 3, ⟨"GampLineModel", "reckons", "(III)I"⟩),
  (prog_14_method_41_code, 12, some .int, false, 5, 3, ⟨"GampLineModel", "between", "(III)I"⟩),
  (prog_14_method_49_code, 12, some .int, false, 3, 2, ⟨"GampLineModel", "burden", "(II)I"⟩),
  (prog_14_method_45_code, 12, some .int, false, 3, 2, ⟨"GampLineModel", "burdenNow", "(II)I"⟩),
  (prog_14_method_44_code, 12, some .int, false, 6, 4, ⟨"GampLineModel", "burdenOf", "(IIII)I"⟩),
  (prog_14_method_64_code, 12, some .int, false, 2, 1, ⟨"GampLineModel", "seed", "(I)I"⟩),
  (prog_14_method_50_code, 12, none, false, 2, 0, ⟨"GampLineModel", "keeps", "()V"⟩),
  (prog_14_method_52_code, 12, none, false, 2, 0, ⟨"GampLineModel", "notes", "()V"⟩),
  (prog_14_method_65_code, 12, some .int, false, 4, 1, ⟨"GampLineModel", "leave", "(I)I"⟩),
  (prog_14_method_53_code, 12, some .int, false, 3, 1, ⟨"GampLineModel", "whyHolds", "(J)I"⟩),
  (prog_14_method_57_code, 12, some .int, false, 3, 1, ⟨"GampLineModel", "leaves", "(I)I"⟩),
  (prog_14_method_67_code, 12, some .int, false, 4, 2, ⟨"GampLineModel", "fetch", "(II)I"⟩),
  (prog_14_method_55_code, 12, some .int, false, 7, 2, ⟨"GampLineModel", "whyFetch", "(JJ)I"⟩),
  (prog_14_method_66_code, 12, some .int, false, 3, 0, ⟨"GampLineModel", "officeSet", "()I"⟩),
  (prog_14_method_39_code, 12, some .int, false, 3, 1, ⟨"GampLineModel", "bitsOf", "(I)I"⟩),
  (prog_14_method_68_code, 12, some .int, false, 3, 1, ⟨"GampLineModel", "open", "(I)I"⟩),
  (prog_14_method_54_code, 12, some .int, false, 5, 1, ⟨"GampLineModel", "whyOpen", "(J)I"⟩),
  (prog_14_method_58_code, 12, none, false, 3, 1, ⟨"GampLineModel", "opens1", "(I)V"⟩),
  (prog_14_method_69_code, 12, some .int, false, 4, 2, ⟨"GampLineModel", "swap", "(II)I"⟩),
  (prog_14_method_56_code, 12, some .int, false, 5, 2, ⟨"GampLineModel", "whySwap", "(JJ)I"⟩),
  (prog_14_method_38_code, 12, some .boolean, false, 5, 2, ⟨"GampLineModel", "areTwo", "(JJ)Z"⟩),
  (prog_14_method_59_code, 12, none, false, 5, 2, ⟨"GampLineModel", "swaps", "(II)V"⟩),
  (prog_14_method_70_code, 12, some .int, false, 3, 2, ⟨"GampLineModel", "mark", "(II)I"⟩),
  (prog_14_method_71_code, 12, some .int, false, 4, 1, ⟨"GampLineModel", "days", "(I)I"⟩),
  (prog_14_method_63_code, 12, some .int, false, 2, 0, ⟨"GampLineModel", "goesDay", "()I"⟩),
  (prog_14_method_60_code, 12, some .int, false, 2, 1, ⟨"GampLineModel", "draw", "(I)I"⟩),
  (prog_14_method_62_code, 12, some .int, false, 5, 0, ⟨"GampLineModel", "rolls", "()I"⟩),
  (prog_14_method_61_code, 12, some .int, false, 7, 2, ⟨"GampLineModel", "taker", "(II)I"⟩),
  (prog_14_method_72_code, 12, some .int, false, 3, 1, ⟨"GampLineModel", "undo", "(I)I"⟩),
  (prog_14_method_78_code, 12, some .int, false, 7, 2, ⟨"GampLineModel", "judge", "(II)I"⟩),
  (prog_14_method_76_code, 12, some .int, false, 2, 1, ⟨"GampLineModel", "noTray", "(I)I"⟩),
  (prog_14_method_75_code, 12, some .int, false, 3, 1, ⟨"GampLineModel", "tells", "(I)I"⟩),
  (prog_14_method_73_code, 12, some .int, false, 7, 1, ⟨"GampLineModel", "whyNot", "(J)I"⟩),
  (prog_14_method_74_code, 12, none, false, 4, 1, ⟨"GampLineModel", "does", "(I)V"⟩),
  (prog_14_method_77_code, 12, some .int, false, 3, 0, ⟨"GampLineModel", "holders", "()I"⟩),
  (prog_14_method_51_code, 12, none, false, 2, 0, ⟨"GampLineModel", "isAgain", "()V"⟩),
  (prog_14_method_79_code, 12, some .int, false, 4, 1, ⟨"GampLineModel", "perform", "(I)I"⟩),
  (prog_14_method_81_code, 12, some .int, false, 6, 2, ⟨"GampLineModel", "season", "(II)I"⟩),
  (prog_14_method_80_code, 12, some .int, false, 3, 0, ⟨"GampLineModel", "drawn", "()I"⟩),
  (prog_14_method_84_code, 12, some .int, false, 3, 2, ⟨"GampLineModel", "goes", "(II)I"⟩),
  (prog_14_method_35_code, 12, some .boolean, false, 3, 1, ⟨"GampLineModel", "isStation", "(J)Z"⟩),
  (prog_14_method_83_code, 12, some .int, false, 4, 2, ⟨"GampLineModel", "goesTo", "(II)I"⟩),
  (prog_14_method_82_code, 12, none, false, 2, 0, ⟨"GampLineModel", "clears", "()V"⟩),
  (prog_14_method_85_code, 12, some .int, false, 3, 2, ⟨"GampLineModel", "takes", "(II)I"⟩),
  (prog_14_method_86_code, 12, some .int, false, 5, 2, ⟨"GampLineModel", "sources", "(II)I"⟩),
  (prog_14_method_91_code, 12, some .int, false, 5, 2, ⟨"GampLineModel", "plan", "(II)I"⟩),
  (prog_14_method_87_code, 12, some .int, false, 10, 1, ⟨"GampLineModel", "noPlan", "(I)I"⟩),
  (prog_14_method_90_code, 12, some .int, false, 4, 1, ⟨"GampLineModel", "rowsOf", "(I)I"⟩),
  (prog_14_method_89_code, 12, none, false, 5, 2, ⟨"GampLineModel", "laysLeft", "(II)V"⟩),
  (prog_14_method_88_code, 12, some .boolean, false, 4, 1, ⟨"GampLineModel", "isPlan", "(I)Z"⟩),
  (prog_14_method_92_code, 12, some .int, false, 5, 1, ⟨"GampLineModel", "plans", "(I)I"⟩),
  (prog_14_method_96_code, 12, some .int, false, 5, 1, ⟨"GampLineModel", "match", "(I)I"⟩),
  (prog_14_method_94_code, 12, none, false, 3, 0, ⟨"GampLineModel", "laysMatching", "()V"⟩),
  (prog_14_method_95_code, 12, none, false, 10, 2, ⟨"GampLineModel", "laysGiven", "(II)V"⟩),
  (prog_14_method_93_code, 12, some .int, false, 4, 3, ⟨"GampLineModel", "claimed", "(III)I"⟩),
  (prog_14_method_15_code, 12, some .boolean, false, 3, 2, ⟨"GampLineModel", "isIn", "(JI)Z"⟩),
  (prog_14_method_97_code, 12, some .int, false, 1, 0, ⟨"GampLineModel", "matchings", "()I"⟩),
  (prog_14_method_99_code, 12, some .int, false, 3, 0, ⟨"GampLineModel", "without", "()I"⟩),
  (prog_14_method_98_code, 12, some .int, false, 6, 2, ⟨"GampLineModel", "mostGiven", "(II)I"⟩),
  (prog_14_method_100_code, 12, some .int, false, 8, 2, ⟨"GampLineModel", "fetches", "(II)I"⟩),
  (prog_14_method_104_code, 12, some .int, false, 2, 1, ⟨"GampLineModel", "trade", "(I)I"⟩),
  (prog_14_method_103_code, 12, none, false, 4, 0, ⟨"GampLineModel", "laysTrade", "()V"⟩),
  (prog_14_method_101_code, 12, some .int, false, 7, 2, ⟨"GampLineModel", "pointed", "(II)I"⟩),
  (prog_14_method_102_code, 12, some .boolean, false, 4, 1, ⟨"GampLineModel", "isRing", "(I)Z"⟩),
  (prog_14_method_105_code, 12, some .int, false, 1, 0, ⟨"GampLineModel", "rounds", "()I"⟩),
  (prog_14_method_106_code, 12, some .int, false, 3, 0, ⟨"GampLineModel", "traders", "()I"⟩),
  (prog_14_method_107_code, 12, some .int, false, 5, 0, ⟨"GampLineModel", "bargain", "()I"⟩),
  (prog_14_method_113_code, 12, some .int, false, 3, 2, ⟨"GampLineModel", "opening", "(II)I"⟩),
  (prog_14_method_108_code, 12, some .boolean, false, 2, 1, ⟨"GampLineModel", "isSet", "(I)Z"⟩),
  (prog_14_method_112_code, 12, some .int, false, 7, 2, ⟨"GampLineModel", "laysOpening", "(II)I"⟩),
  (prog_14_method_110_code, 12, none, false, 8, 2, ⟨"GampLineModel", "laysMore", "(II)V"⟩),
  (prog_14_method_109_code, 12, some .int, false, 6, 4, ⟨"GampLineModel", "moreBy", "(IIII)I"⟩),
  (prog_14_method_111_code, 12, some .boolean, false, 10, 3, ⟨"GampLineModel", "goesThing", "(III)Z"⟩),
  (prog_14_method_114_code, 12, some .int, false, 4, 3, ⟨"GampLineModel", "openedBy", "(III)I"⟩),
  (prog_14_method_115_code, 12, some .int, false, 9, 2, ⟨"GampLineModel", "inADay", "(II)I"⟩),
  (prog_14_method_120_code, 12, some .int, false, 4, 2, ⟨"GampLineModel", "marks", "(II)I"⟩),
  (prog_14_method_117_code, 12, some .int, false, 5, 2, ⟨"GampLineModel", "noAnswers", "(II)I"⟩),
  (prog_14_method_116_code, 12, some .int, false, 4, 2, ⟨"GampLineModel", "noRow", "(II)I"⟩),
  (prog_14_method_119_code, 12, some .int, false, 7, 2, ⟨"GampLineModel", "marksOf", "(II)I"⟩),
  (prog_14_method_118_code, 12, some .boolean, false, 6, 3, ⟨"GampLineModel", "claimsBy", "(III)Z"⟩),
  (prog_14_method_121_code, 12, some .int, false, 10, 2, ⟨"GampLineModel", "show", "(II)I"⟩),
  (prog_14_method_124_code, 12, some .int, false, 4, 3, ⟨"GampLineModel", "game", "(III)I"⟩),
  (prog_14_method_123_code, 12, none, false, 9, 3, ⟨"GampLineModel", "laysGame", "(III)V"⟩),
  (prog_14_method_122_code, 12, some .int, false, 8, 5, ⟨"GampLineModel", "chosen", "(IIIII)I"⟩),
  (prog_14_method_125_code, 12, some .int, false, 5, 3, ⟨"GampLineModel", "picks", "(III)I"⟩),
  (prog_14_method_130_code, 12, some .long, false, 9, 3, ⟨"GampLineModel", "chance", "(III)J"⟩),
  (prog_14_method_126_code, 12, some .int, false, 5, 2, ⟨"GampLineModel", "noChance", "(II)I"⟩),
  (prog_14_method_127_code, 12, none, false, 6, 2, ⟨"GampLineModel", "laysBorne", "(II)V"⟩),
  (prog_14_method_128_code, 12, some .long, false, 4, 1, ⟨"GampLineModel", "tens", "(I)J"⟩),
  (prog_14_method_129_code, 12, some .long, false, 4, 2, ⟨"GampLineModel", "common", "(JJ)J"⟩),
  (prog_14_method_131_code, 12, some .int, false, 8, 3, ⟨"GampLineModel", "bearing", "(III)I"⟩),
  (prog_14_method_133_code, 12, some .int, false, 5, 3, ⟨"GampLineModel", "numbers", "(III)I"⟩),
  (prog_14_method_134_code, 12, some .long, false, 6, 3, ⟨"GampLineModel", "write", "(IIJ)J"⟩),
  (prog_14_method_132_code, 12, some .long, false, 3, 2, ⟨"GampLineModel", "cut", "(JI)J"⟩),
  (prog_14_method_135_code, 12, some .int, false, 7, 3, ⟨"GampLineModel", "lists", "(III)I"⟩),
  (prog_14_method_136_code, 12, some .int, false, 3, 1, ⟨"GampLineModel", "image", "(I)I"⟩),
  (prog_14_method_137_code, 12, some .int, false, 3, 1, ⟨"GampLineModel", "restore", "(I)I"⟩),
  (prog_14_method_139_code, 12, some .int, false, 2, 1, ⟨"GampLineModel", "count", "(I)I"⟩),
  (prog_14_method_138_code, 12, some .int, false, 3, 0, ⟨"GampLineModel", "heldSet", "()I"⟩),
  (prog_15_method_49_code, 14, some .int, false, 1, 1, ⟨"java/lang/Integer", "bitCount", "(I)I"⟩),
  (prog_16_method_69_code, 15, some .int, false, 2, 2, ⟨"java/lang/Math", "min", "(II)I"⟩),
  (prog_16_method_65_code, 15, some .int, false, 2, 2, ⟨"java/lang/Math", "max", "(II)I"⟩),
  (prog_16_method_50_code, 15, some .int, false, 3, 2, ⟨"java/lang/Math", "floorMod", "(II)I"⟩),
  (prog_21_method_103_code, 16, none, false, 4, 2, ⟨"java/util/Arrays", "fill", "([II)V"⟩),
  (prog_21_method_104_code, 16, none, false, 5, 4, ⟨"java/util/Arrays", "fill", "([IIII)V"⟩),
  (prog_21_method_30_code, 16, none, false, 3, 3, ⟨"java/util/Arrays", "rangeCheck", "(III)V"⟩),
  (prog_21_method_101_code, 16, none, false, 5, 2, ⟨"java/util/Arrays", "fill", "([JJ)V"⟩)]
def pm_T0 : ByteArray × Nat × Option FieldType × Bool × Nat × Nat × MethodName := (⟨#[]⟩, 0, none, false, 0, 0, ⟨"", "", ""⟩)
def pm_ny : Nat := 330
def pm_by (y : Nat) : ByteArray := (pm_T.getD y pm_T0).1
def pm_oc (y : Nat) : Nat := (pm_T.getD y pm_T0).2.1
def pm_rt (y : Nat) : Option FieldType := (pm_T.getD y pm_T0).2.2.1
def pm_fi (y : Nat) : Bool := (pm_T.getD y pm_T0).2.2.2.1
def pm_mx (y : Nat) : Nat := (pm_T.getD y pm_T0).2.2.2.2.1
def pm_np (y : Nat) : Nat := (pm_T.getD y pm_T0).2.2.2.2.2.1
def pm_mn (y : Nat) : MethodName := (pm_T.getD y pm_T0).2.2.2.2.2.2
def pm_nf (c : Nat) : Nat := [1, 8, 11, 13, 3, 9, 12, 8, 3, 3, 1, 17, 42].getD c 0
def pm_fv (E : pm_E) (M : pm_M) (a kf kd : Nat) : Value := match kd with
  | 0 => .int (M.1 a kf)
  | 3 => .int (M.1 a kf)
  | 1 => .long (M.2 a kf)
  | _ => pm_rf (E.2.2.2 a kf)
def pm_at (ty : ArrayType) : Option Nat := match ty with
  | .int => some 0
  | .long => some 1
  | .boolean => some 2
  | _ => none
/-- the owner of which an array of references has its elements -/
def pm_ae (q : Nat) : Nat := match q with
  | 3 => 7
  | 4 => 9
  | _ => 3
def pm_st : List (List Nat) := [[108, 105, 110, 101, 32, 116, 104, 105, 110, 103, 32, 112, 101, 114, 115, 111, 110, 32, 99, 108, 97, 105, 109, 115, 32, 111, 112, 101, 110, 115, 32, 119, 101, 116, 32, 97, 116, 32, 104, 117, 101, 32, 119, 101, 105, 103, 104, 116, 32, 109, 97, 114, 107, 32, 98, 101, 97, 114, 115, 32, 104, 111, 108, 100, 115, 32, 119, 104, 111, 32, 98, 111, 114, 110, 101, 32, 105, 102, 32, 116, 104, 101, 110, 32, 101, 108, 115, 101, 32, 101, 110, 100, 32, 110, 111, 116, 32, 97, 110, 100, 32, 111, 114], [32, 108, 105, 110, 101, 32, 116, 104, 105, 110, 103, 32, 97, 116, 32, 104, 117, 101, 32, 119, 101, 105, 103, 104, 116, 32, 112, 101, 114, 115, 111, 110, 32, 109, 97, 114, 107, 32, 98, 101, 97, 114, 115, 32, 104, 111, 108, 100, 115, 32, 99, 108, 97, 105, 109, 115, 32, 111, 112, 101, 110, 115, 32, 119, 101, 116, 32, 105, 102, 32, 116, 104, 101, 110, 32, 101, 108, 115, 101, 32, 101, 110, 100, 32, 119, 104, 111, 32, 98, 111, 114, 110, 101, 32, 97, 110, 100, 32, 111, 114, 32, 110, 111, 116, 32], [59, 58, 43, 45, 42, 40, 41, 91, 93, 61, 60, 62]]
def pm_sl (j : Nat) : Nat := (pm_st.getD j []).length
def pm_sc (j i : Nat) : Int32 := Int32.ofNat ((pm_st.getD j []).getD i 0)
abbrev yK_init : Nat := 0
abbrev yK_gather : Nat := 1
abbrev yK_of : Nat := 2
abbrev yK_someBy : Nat := 3
abbrev yK_mostOf : Nat := 4
abbrev yW_init : Nat := 5
abbrev yW_clear : Nat := 6
abbrev yW_add : Nat := 7
abbrev yW_aimToEnd : Nat := 8
abbrev yW_become : Nat := 9
abbrev yW_worth : Nat := 10
abbrev yW_factAt : Nat := 11
abbrev yW_joined : Nat := 12
abbrev yW_bounded : Nat := 13
abbrev yF_init : Nat := 14
abbrev yF_begin : Nat := 15
abbrev yF_add : Nat := 16
abbrev yF_start : Nat := 17
abbrev yF_travel : Nat := 18
abbrev yF_arrives : Nat := 19
abbrev yF_searchPlans : Nat := 20
abbrev yF_spell : Nat := 21
abbrev yF_wouldDo : Nat := 22
abbrev yL_init : Nat := 23
abbrev yL_clear : Nat := 24
abbrev yL_addThing : Nat := 25
abbrev yL_addPerson : Nat := 26
abbrev yL_canBeHeld : Nat := 27
abbrev yL_hasThing : Nat := 28
abbrev yL_giveTo : Nat := 29
abbrev yL_become : Nat := 30
abbrev yL_hasPerson : Nat := 31
abbrev yL_claimBy : Nat := 32
abbrev yL_tellFacts : Nat := 33
abbrev yL_burdenOf : Nat := 34
abbrev yL_hasStation : Nat := 35
abbrev yL_hasSet : Nat := 36
abbrev yO_init : Nat := 37
abbrev yO_spread : Nat := 38
abbrev yO_add : Nat := 39
abbrev yO_waysUpTo : Nat := 40
abbrev yO_commonDivisor : Nat := 41
abbrev yO_leastFor : Nat := 42
abbrev yN_init : Nat := 43
abbrev yN_begin : Nat := 44
abbrev yN_fewestDays : Nat := 45
abbrev yN_furtherDays : Nat := 46
abbrev yN_burdenAt : Nat := 47
abbrev yN_findOrder : Nat := 48
abbrev yN_reachesBehind : Nat := 49
abbrev yN_orderAt : Nat := 50
abbrev yN_mostInADay : Nat := 51
abbrev yR_init : Nat := 52
abbrev yR_append : Nat := 53
abbrev yR_begin : Nat := 54
abbrev yR_step : Nat := 55
abbrev yR_isLetter : Nat := 56
abbrev yR_wordFrom : Nat := 57
abbrev yR_isDigit : Nat := 58
abbrev yR_readDigits : Nat := 59
abbrev yR_fail : Nat := 60
abbrev yR_isSign : Nat := 61
abbrev yR_expect : Nat := 62
abbrev yR_readNumber : Nat := 63
abbrev yR_goesOn : Nat := 64
abbrev yR_readLine : Nat := 65
abbrev yR_readThing : Nat := 66
abbrev yR_readPerson : Nat := 67
abbrev yR_readFlag : Nat := 68
abbrev yR_readLaw : Nat := 69
abbrev yR_readSum : Nat := 70
abbrev yR_readTerm : Nat := 71
abbrev yR_readAtom : Nat := 72
abbrev yR_factOf : Nat := 73
abbrev yR_goesIn : Nat := 74
abbrev yR_readChoice : Nat := 75
abbrev yR_readTruth : Nat := 76
abbrev yR_readBoth : Nat := 77
abbrev yR_readUnit : Nat := 78
abbrev yR_readComparison : Nat := 79
abbrev yS_init : Nat := 80
abbrev yS_begin : Nat := 81
abbrev yS_heldThing : Nat := 82
abbrev yS_become : Nat := 83
abbrev yS_tryLeave : Nat := 84
abbrev yS_tryFetch : Nat := 85
abbrev yS_officeBits : Nat := 86
abbrev yS_tryOpen : Nat := 87
abbrev yS_borneBy : Nat := 88
abbrev yS_trySwap : Nat := 89
abbrev yS_markOf : Nat := 90
abbrev yS_tryMark : Nat := 91
abbrev yS_passDay : Nat := 92
abbrev yS_draw : Nat := 93
abbrev yS_nextPlace : Nat := 94
abbrev yS_doAll : Nat := 95
abbrev yS_attempt : Nat := 96
abbrev yS_holderBits : Nat := 97
abbrev yS_seasonDeed : Nat := 98
abbrev yS_holderOf : Nat := 99
abbrev yS_heldBits : Nat := 100
abbrev yT_init : Nat := 101
abbrev yT_run : Nat := 102
abbrev yT_choice : Nat := 103
abbrev yT_settle : Nat := 104
abbrev yT_isOnRing : Nat := 105
abbrev yY_init : Nat := 106
abbrev yY_isMissing : Nat := 107
abbrev yY_at : Nat := 108
abbrev yY_hasPlace : Nat := 109
abbrev yY_codeForNumbers : Nat := 110
abbrev yY_beginAnew : Nat := 111
abbrev yY_put : Nat := 112
abbrev yY_cut : Nat := 113
abbrev yH_init : Nat := 114
abbrev yH_weighMatchings : Nat := 115
abbrev yH_sumWith : Nat := 116
abbrev yH_givenTo : Nat := 117
abbrev yH_waysForAll : Nat := 118
abbrev yH_playOut : Nat := 119
abbrev yH_bestTurn : Nat := 120
abbrev yG_init : Nat := 121
abbrev yG_feed : Nat := 122
abbrev yG_line : Nat := 123
abbrev yG_forgetPast : Nat := 124
abbrev yG_fault : Nat := 125
abbrev yG_thing : Nat := 126
abbrev yG_person : Nat := 127
abbrev yG_claims : Nat := 128
abbrev yG_burden : Nat := 129
abbrev yG_seed : Nat := 130
abbrev yG_remember : Nat := 131
abbrev yG_leave : Nat := 132
abbrev yG_agreed : Nat := 133
abbrev yG_fetch : Nat := 134
abbrev yG_open : Nat := 135
abbrev yG_swap : Nat := 136
abbrev yG_mark : Nat := 137
abbrev yG_days : Nat := 138
abbrev yG_undo : Nat := 139
abbrev yG_judge : Nat := 140
abbrev yG_hasTray : Nat := 141
abbrev yG_perform : Nat := 142
abbrev yG_trayCode : Nat := 143
abbrev yG_season : Nat := 144
abbrev yG_goes : Nat := 145
abbrev yG_canBeLeft : Nat := 146
abbrev yG_takes : Nat := 147
abbrev yG_sources : Nat := 148
abbrev yG_plan : Nat := 149
abbrev yG_planCode : Nat := 150
abbrev yG_canPlan : Nat := 151
abbrev yG_beginPlan : Nat := 152
abbrev yG_plans : Nat := 153
abbrev yG_match : Nat := 154
abbrev yG_matchings : Nat := 155
abbrev yG_without : Nat := 156
abbrev yG_fetches : Nat := 157
abbrev yG_trade : Nat := 158
abbrev yG_rounds : Nat := 159
abbrev yG_traders : Nat := 160
abbrev yG_bargain : Nat := 161
abbrev yG_bothGain : Nat := 162
abbrev yG_opening : Nat := 163
abbrev yG_openingCode : Nat := 164
abbrev yG_openedBy : Nat := 165
abbrev yG_inADay : Nat := 166
abbrev yG_marks : Nat := 167
abbrev yG_answersCode : Nat := 168
abbrev yG_marksBy : Nat := 169
abbrev yG_wouldAnswer : Nat := 170
abbrev yG_show : Nat := 171
abbrev yG_game : Nat := 172
abbrev yG_canChoose : Nat := 173
abbrev yG_picks : Nat := 174
abbrev yG_chance : Nat := 175
abbrev yG_chanceCode : Nat := 176
abbrev yG_bearing : Nat := 177
abbrev yG_numbers : Nat := 178
abbrev yG_write : Nat := 179
abbrev yG_lists : Nat := 180
abbrev yG_image : Nat := 181
abbrev yG_restore : Nat := 182
abbrev yG_count : Nat := 183
abbrev yM_init : Nat := 184
abbrev yM_plain : Nat := 185
abbrev yM_feed : Nat := 186
abbrev yM_line : Nat := 187
abbrev yM_within : Nat := 188
abbrev yM_next : Nat := 189
abbrev yM_see : Nat := 190
abbrev yM_isSmall : Nat := 191
abbrev yM_keyAt : Nat := 192
abbrev yM_isDigit : Nat := 193
abbrev yM_eats : Nat := 194
abbrev yM_is : Nat := 195
abbrev yM_fails : Nat := 196
abbrev yM_takesN : Nat := 197
abbrev yM_ends : Nat := 198
abbrev yM_readLine : Nat := 199
abbrev yM_readThing : Nat := 200
abbrev yM_readPerson : Nat := 201
abbrev yM_readFlag : Nat := 202
abbrev yM_readHolds : Nat := 203
abbrev yM_readLaw : Nat := 204
abbrev yM_readSum : Nat := 205
abbrev yM_readTerm : Nat := 206
abbrev yM_readAtom : Nat := 207
abbrev yM_codes : Nat := 208
abbrev yM_wordOf : Nat := 209
abbrev yM_goesIn : Nat := 210
abbrev yM_readIf : Nat := 211
abbrev yM_readTruth : Nat := 212
abbrev yM_readBoth : Nat := 213
abbrev yM_readUnit : Nat := 214
abbrev yM_fault : Nat := 215
abbrev yM_thing : Nat := 216
abbrev yM_isThing : Nat := 217
abbrev yM_person : Nat := 218
abbrev yM_isPerson : Nat := 219
abbrev yM_heldBy : Nat := 220
abbrev yM_claims : Nat := 221
abbrev yM_claimsOf : Nat := 222
abbrev yM_reckons : Nat := 223
abbrev yM_between : Nat := 224
abbrev yM_burden : Nat := 225
abbrev yM_burdenNow : Nat := 226
abbrev yM_burdenOf : Nat := 227
abbrev yM_seed : Nat := 228
abbrev yM_keeps : Nat := 229
abbrev yM_notes : Nat := 230
abbrev yM_leave : Nat := 231
abbrev yM_whyHolds : Nat := 232
abbrev yM_leaves : Nat := 233
abbrev yM_fetch : Nat := 234
abbrev yM_whyFetch : Nat := 235
abbrev yM_officeSet : Nat := 236
abbrev yM_bitsOf : Nat := 237
abbrev yM_open : Nat := 238
abbrev yM_whyOpen : Nat := 239
abbrev yM_opens1 : Nat := 240
abbrev yM_swap : Nat := 241
abbrev yM_whySwap : Nat := 242
abbrev yM_areTwo : Nat := 243
abbrev yM_swaps : Nat := 244
abbrev yM_mark : Nat := 245
abbrev yM_days : Nat := 246
abbrev yM_goesDay : Nat := 247
abbrev yM_draw : Nat := 248
abbrev yM_rolls : Nat := 249
abbrev yM_taker : Nat := 250
abbrev yM_undo : Nat := 251
abbrev yM_judge : Nat := 252
abbrev yM_noTray : Nat := 253
abbrev yM_tells : Nat := 254
abbrev yM_whyNot : Nat := 255
abbrev yM_does : Nat := 256
abbrev yM_holders : Nat := 257
abbrev yM_isAgain : Nat := 258
abbrev yM_perform : Nat := 259
abbrev yM_season : Nat := 260
abbrev yM_drawn : Nat := 261
abbrev yM_goes : Nat := 262
abbrev yM_isStation : Nat := 263
abbrev yM_goesTo : Nat := 264
abbrev yM_clears : Nat := 265
abbrev yM_takes : Nat := 266
abbrev yM_sources : Nat := 267
abbrev yM_plan : Nat := 268
abbrev yM_noPlan : Nat := 269
abbrev yM_rowsOf : Nat := 270
abbrev yM_laysLeft : Nat := 271
abbrev yM_isPlan : Nat := 272
abbrev yM_plans : Nat := 273
abbrev yM_match : Nat := 274
abbrev yM_laysMatching : Nat := 275
abbrev yM_laysGiven : Nat := 276
abbrev yM_claimed : Nat := 277
abbrev yM_isIn : Nat := 278
abbrev yM_matchings : Nat := 279
abbrev yM_without : Nat := 280
abbrev yM_mostGiven : Nat := 281
abbrev yM_fetches : Nat := 282
abbrev yM_trade : Nat := 283
abbrev yM_laysTrade : Nat := 284
abbrev yM_pointed : Nat := 285
abbrev yM_isRing : Nat := 286
abbrev yM_rounds : Nat := 287
abbrev yM_traders : Nat := 288
abbrev yM_bargain : Nat := 289
abbrev yM_opening : Nat := 290
abbrev yM_isSet : Nat := 291
abbrev yM_laysOpening : Nat := 292
abbrev yM_laysMore : Nat := 293
abbrev yM_moreBy : Nat := 294
abbrev yM_goesThing : Nat := 295
abbrev yM_openedBy : Nat := 296
abbrev yM_inADay : Nat := 297
abbrev yM_marks : Nat := 298
abbrev yM_noAnswers : Nat := 299
abbrev yM_noRow : Nat := 300
abbrev yM_marksOf : Nat := 301
abbrev yM_claimsBy : Nat := 302
abbrev yM_show : Nat := 303
abbrev yM_game : Nat := 304
abbrev yM_laysGame : Nat := 305
abbrev yM_chosen : Nat := 306
abbrev yM_picks : Nat := 307
abbrev yM_chance : Nat := 308
abbrev yM_noChance : Nat := 309
abbrev yM_laysBorne : Nat := 310
abbrev yM_tens : Nat := 311
abbrev yM_common : Nat := 312
abbrev yM_bearing : Nat := 313
abbrev yM_numbers : Nat := 314
abbrev yM_write : Nat := 315
abbrev yM_cut : Nat := 316
abbrev yM_lists : Nat := 317
abbrev yM_image : Nat := 318
abbrev yM_restore : Nat := 319
abbrev yM_count : Nat := 320
abbrev yM_heldSet : Nat := 321
abbrev yint_bitCount : Nat := 322
abbrev ymath_min : Nat := 323
abbrev ymath_max : Nat := 324
abbrev ymath_floorMod : Nat := 325
abbrev yarr_fill_II : Nat := 326
abbrev yarr_fill_IIII : Nat := 327
abbrev yarr_rangeCheck : Nat := 328
abbrev yarr_fill_JJ : Nat := 329

def pm_I (cal : pm_C) (o : Nat) (rt : Option FieldType) (fi : Bool) (pc : Nat) (ls st : List Value) (E : pm_E) (M : pm_M) (res : pm_Z) (i : Instr) (len : Nat) (k : Nat → List Value → List Value → pm_E → pm_M → Prop) : Prop := match i with
  | .iconst n => len = 1 ∧ ∃ (rest : List Value), st = rest ∧ k (pc + 1) ls (.int (Int32.ofInt n) :: rest) E M
  | .bipush n => len = 2 ∧ ∃ (rest : List Value), st = rest ∧ k (pc + 2) ls (.int (Int8.ofInt n).toInt32 :: rest) E M
  | .sipush n => len = 3 ∧ ∃ (rest : List Value), st = rest ∧ k (pc + 3) ls (.int (Int16.ofInt n).toInt32 :: rest) E M
  | .lconst n => len = 1 ∧ ∃ (rest : List Value), st = rest ∧ k (pc + 1) ls (.long (Int64.ofNat (n : Nat)) :: rest) E M
  | .iload i => len = 2 ∧ ∃ (x : Int32), ∃ (rest : List Value), st = rest ∧ (ls[i]? = some (.int x)) ∧ k (pc + 2) ls (.int x :: rest) E M
  | .iload_n i => len = 1 ∧ ∃ (x : Int32), ∃ (rest : List Value), st = rest ∧ (ls[(i : Nat)]? = some (.int x)) ∧ k (pc + 1) ls (.int x :: rest) E M
  | .istore i => len = 2 ∧ ∃ (x : Int32), ∃ (rest : List Value), st = .int x :: rest ∧ (i < ls.length) ∧ k (pc + 2) (pm_sto ls i (.int x)) (rest) E M
  | .istore_n i => len = 1 ∧ ∃ (x : Int32), ∃ (rest : List Value), st = .int x :: rest ∧ ((i : Nat) < ls.length) ∧ k (pc + 1) (pm_sto ls (i : Nat) (.int x)) (rest) E M
  | .lload i => len = 2 ∧ ∃ (x : Int64), ∃ (rest : List Value), st = rest ∧ (ls[i]? = some (.long x)) ∧ k (pc + 2) ls (.long x :: rest) E M
  | .lload_n i => len = 1 ∧ ∃ (x : Int64), ∃ (rest : List Value), st = rest ∧ (ls[(i : Nat)]? = some (.long x)) ∧ k (pc + 1) ls (.long x :: rest) E M
  | .lstore i => len = 2 ∧ ∃ (x : Int64), ∃ (rest : List Value), st = .long x :: rest ∧ (i + 1 < ls.length) ∧ k (pc + 2) (pm_sto ls i (.long x)) (rest) E M
  | .lstore_n i => len = 1 ∧ ∃ (x : Int64), ∃ (rest : List Value), st = .long x :: rest ∧ ((i : Nat) + 1 < ls.length) ∧ k (pc + 1) (pm_sto ls (i : Nat) (.long x)) (rest) E M
  | .aload i => len = 2 ∧ ∃ (x : Nat), ∃ (rest : List Value), st = rest ∧ (ls[i]? = some (.ref x)) ∧ k (pc + 2) ls (.ref x :: rest) E M
  | .aload_n i => len = 1 ∧ ∃ (x : Nat), ∃ (rest : List Value), st = rest ∧ (ls[(i : Nat)]? = some (.ref x)) ∧ k (pc + 1) ls (.ref x :: rest) E M
  | .astore i => len = 2 ∧ ∃ (x : Nat), ∃ (rest : List Value), st = .ref x :: rest ∧ (i < ls.length) ∧ k (pc + 2) (pm_sto ls i (.ref x)) (rest) E M
  | .astore_n i => len = 1 ∧ ∃ (x : Nat), ∃ (rest : List Value), st = .ref x :: rest ∧ ((i : Nat) < ls.length) ∧ k (pc + 1) (pm_sto ls (i : Nat) (.ref x)) (rest) E M
  | .iinc i n => len = 3 ∧ ∃ (x : Int32), ∃ (rest : List Value), st = rest ∧ (ls[i]? = some (.int x)) ∧ (i < ls.length) ∧ k (pc + 3) (pm_sto ls i (.int (x + Int32.ofInt n))) (rest) E M
  | .iadd => len = 1 ∧ ∃ (x : Int32), ∃ (y : Int32), ∃ (rest : List Value), st = .int y :: .int x :: rest ∧ k (pc + 1) ls (.int (x + y) :: rest) E M
  | .isub => len = 1 ∧ ∃ (x : Int32), ∃ (y : Int32), ∃ (rest : List Value), st = .int y :: .int x :: rest ∧ k (pc + 1) ls (.int (x - y) :: rest) E M
  | .imul => len = 1 ∧ ∃ (x : Int32), ∃ (y : Int32), ∃ (rest : List Value), st = .int y :: .int x :: rest ∧ k (pc + 1) ls (.int (x * y) :: rest) E M
  | .iand => len = 1 ∧ ∃ (x : Int32), ∃ (y : Int32), ∃ (rest : List Value), st = .int y :: .int x :: rest ∧ k (pc + 1) ls (.int (x &&& y) :: rest) E M
  | .ior => len = 1 ∧ ∃ (x : Int32), ∃ (y : Int32), ∃ (rest : List Value), st = .int y :: .int x :: rest ∧ k (pc + 1) ls (.int (x ||| y) :: rest) E M
  | .ixor => len = 1 ∧ ∃ (x : Int32), ∃ (y : Int32), ∃ (rest : List Value), st = .int y :: .int x :: rest ∧ k (pc + 1) ls (.int (x ^^^ y) :: rest) E M
  | .ishl => len = 1 ∧ ∃ (x : Int32), ∃ (y : Int32), ∃ (rest : List Value), st = .int y :: .int x :: rest ∧ k (pc + 1) ls (.int (x <<< (y &&& 31)) :: rest) E M
  | .ishr => len = 1 ∧ ∃ (x : Int32), ∃ (y : Int32), ∃ (rest : List Value), st = .int y :: .int x :: rest ∧ k (pc + 1) ls (.int (x >>> (y &&& 31)) :: rest) E M
  | .iushr => len = 1 ∧ ∃ (x : Int32), ∃ (y : Int32), ∃ (rest : List Value), st = .int y :: .int x :: rest ∧ k (pc + 1) ls (.int ((x.toUInt32 >>> (y.toUInt32 &&& Int32.toUInt32 31)).toInt32) :: rest) E M
  | .idiv => len = 1 ∧ ∃ (x : Int32), ∃ (y : Int32), ∃ (rest : List Value), st = .int y :: .int x :: rest ∧ (¬ y = 0) ∧ k (pc + 1) ls (.int (x / y) :: rest) E M
  | .irem => len = 1 ∧ ∃ (x : Int32), ∃ (y : Int32), ∃ (rest : List Value), st = .int y :: .int x :: rest ∧ (¬ y = 0) ∧ k (pc + 1) ls (.int (x - x / y * y) :: rest) E M
  | .ladd => len = 1 ∧ ∃ (x : Int64), ∃ (y : Int64), ∃ (rest : List Value), st = .long y :: .long x :: rest ∧ k (pc + 1) ls (.long (x + y) :: rest) E M
  | .lsub => len = 1 ∧ ∃ (x : Int64), ∃ (y : Int64), ∃ (rest : List Value), st = .long y :: .long x :: rest ∧ k (pc + 1) ls (.long (x - y) :: rest) E M
  | .lmul => len = 1 ∧ ∃ (x : Int64), ∃ (y : Int64), ∃ (rest : List Value), st = .long y :: .long x :: rest ∧ k (pc + 1) ls (.long (x * y) :: rest) E M
  | .land => len = 1 ∧ ∃ (x : Int64), ∃ (y : Int64), ∃ (rest : List Value), st = .long y :: .long x :: rest ∧ k (pc + 1) ls (.long (x &&& y) :: rest) E M
  | .lor => len = 1 ∧ ∃ (x : Int64), ∃ (y : Int64), ∃ (rest : List Value), st = .long y :: .long x :: rest ∧ k (pc + 1) ls (.long (x ||| y) :: rest) E M
  | .ldiv => len = 1 ∧ ∃ (x : Int64), ∃ (y : Int64), ∃ (rest : List Value), st = .long y :: .long x :: rest ∧ (¬ y = 0) ∧ k (pc + 1) ls (.long (x / y) :: rest) E M
  | .lrem => len = 1 ∧ ∃ (x : Int64), ∃ (y : Int64), ∃ (rest : List Value), st = .long y :: .long x :: rest ∧ (¬ y = 0) ∧ k (pc + 1) ls (.long (x - x / y * y) :: rest) E M
  | .lshl => len = 1 ∧ ∃ (x : Int64), ∃ (y : Int32), ∃ (rest : List Value), st = .int y :: .long x :: rest ∧ k (pc + 1) ls (.long (x <<< (y.toInt64 &&& 63)) :: rest) E M
  | .lshr => len = 1 ∧ ∃ (x : Int64), ∃ (y : Int32), ∃ (rest : List Value), st = .int y :: .long x :: rest ∧ k (pc + 1) ls (.long (x >>> (y.toInt64 &&& 63)) :: rest) E M
  | .lcmp => len = 1 ∧ ∃ (x : Int64), ∃ (y : Int64), ∃ (rest : List Value), st = .long y :: .long x :: rest ∧ k (pc + 1) ls (.int (lg_cmp x y) :: rest) E M
  | .i2l => len = 1 ∧ ∃ (x : Int32), ∃ (rest : List Value), st = .int x :: rest ∧ k (pc + 1) ls (.long x.toInt64 :: rest) E M
  | .l2i => len = 1 ∧ ∃ (x : Int64), ∃ (rest : List Value), st = .long x :: rest ∧ k (pc + 1) ls (.int x.toInt32 :: rest) E M
  | .i2b => len = 1 ∧ ∃ (x : Int32), ∃ (rest : List Value), st = .int x :: rest ∧ k (pc + 1) ls (.int x.toInt8.toInt32 :: rest) E M
  | .i2s => len = 1 ∧ ∃ (x : Int32), ∃ (rest : List Value), st = .int x :: rest ∧ k (pc + 1) ls (.int x.toInt16.toInt32 :: rest) E M
  | .dup => len = 1 ∧ ∃ (x : Value), ∃ (rest : List Value), st = x :: rest ∧ (x.category = 1) ∧ k (pc + 1) ls (x :: x :: rest) E M
  | .pop => len = 1 ∧ ∃ (x : Value), ∃ (rest : List Value), st = x :: rest ∧ (x.category = 1) ∧ k (pc + 1) ls (rest) E M
  | .pop2 => len = 1 ∧ ∃ (x : Value), ∃ (rest : List Value), st = x :: rest ∧ (x.category = 2) ∧ k (pc + 1) ls (rest) E M
  | .dup2 => len = 1 ∧ ((∃ (x y : Value) (rest : List Value), st = x :: y :: rest ∧ x.category = 1 ∧ y.category = 1 ∧ k (pc + 1) ls (x :: y :: x :: y :: rest) E M) ∨ (∃ (x : Value) (rest : List Value), st = x :: rest ∧ x.category = 2 ∧ k (pc + 1) ls (x :: x :: rest) E M))
  | .ifCond .eq off => len = 3 ∧ ∃ (x : Int32), ∃ (rest : List Value) (tgt : Nat), st = .int x :: rest ∧ (pc : Int) + off = (tgt : Int) ∧ (((x = 0) ∧ k tgt ls rest E M) ∨ (¬ (x = 0) ∧ k (pc + 3) ls rest E M))
  | .ifCond .ne off => len = 3 ∧ ∃ (x : Int32), ∃ (rest : List Value) (tgt : Nat), st = .int x :: rest ∧ (pc : Int) + off = (tgt : Int) ∧ (((¬ x = 0) ∧ k tgt ls rest E M) ∨ (¬ (¬ x = 0) ∧ k (pc + 3) ls rest E M))
  | .ifCond .lt off => len = 3 ∧ ∃ (x : Int32), ∃ (rest : List Value) (tgt : Nat), st = .int x :: rest ∧ (pc : Int) + off = (tgt : Int) ∧ (((x < 0) ∧ k tgt ls rest E M) ∨ (¬ (x < 0) ∧ k (pc + 3) ls rest E M))
  | .ifCond .ge off => len = 3 ∧ ∃ (x : Int32), ∃ (rest : List Value) (tgt : Nat), st = .int x :: rest ∧ (pc : Int) + off = (tgt : Int) ∧ (((0 ≤ x) ∧ k tgt ls rest E M) ∨ (¬ (0 ≤ x) ∧ k (pc + 3) ls rest E M))
  | .ifCond .gt off => len = 3 ∧ ∃ (x : Int32), ∃ (rest : List Value) (tgt : Nat), st = .int x :: rest ∧ (pc : Int) + off = (tgt : Int) ∧ (((0 < x) ∧ k tgt ls rest E M) ∨ (¬ (0 < x) ∧ k (pc + 3) ls rest E M))
  | .ifCond .le off => len = 3 ∧ ∃ (x : Int32), ∃ (rest : List Value) (tgt : Nat), st = .int x :: rest ∧ (pc : Int) + off = (tgt : Int) ∧ (((x ≤ 0) ∧ k tgt ls rest E M) ∨ (¬ (x ≤ 0) ∧ k (pc + 3) ls rest E M))
  | .if_icmp .eq off => len = 3 ∧ ∃ (x : Int32), ∃ (y : Int32), ∃ (rest : List Value) (tgt : Nat), st = .int y :: .int x :: rest ∧ (pc : Int) + off = (tgt : Int) ∧ (((x = y) ∧ k tgt ls rest E M) ∨ (¬ (x = y) ∧ k (pc + 3) ls rest E M))
  | .if_icmp .ne off => len = 3 ∧ ∃ (x : Int32), ∃ (y : Int32), ∃ (rest : List Value) (tgt : Nat), st = .int y :: .int x :: rest ∧ (pc : Int) + off = (tgt : Int) ∧ (((¬ x = y) ∧ k tgt ls rest E M) ∨ (¬ (¬ x = y) ∧ k (pc + 3) ls rest E M))
  | .if_icmp .lt off => len = 3 ∧ ∃ (x : Int32), ∃ (y : Int32), ∃ (rest : List Value) (tgt : Nat), st = .int y :: .int x :: rest ∧ (pc : Int) + off = (tgt : Int) ∧ (((x < y) ∧ k tgt ls rest E M) ∨ (¬ (x < y) ∧ k (pc + 3) ls rest E M))
  | .if_icmp .ge off => len = 3 ∧ ∃ (x : Int32), ∃ (y : Int32), ∃ (rest : List Value) (tgt : Nat), st = .int y :: .int x :: rest ∧ (pc : Int) + off = (tgt : Int) ∧ (((y ≤ x) ∧ k tgt ls rest E M) ∨ (¬ (y ≤ x) ∧ k (pc + 3) ls rest E M))
  | .if_icmp .gt off => len = 3 ∧ ∃ (x : Int32), ∃ (y : Int32), ∃ (rest : List Value) (tgt : Nat), st = .int y :: .int x :: rest ∧ (pc : Int) + off = (tgt : Int) ∧ (((y < x) ∧ k tgt ls rest E M) ∨ (¬ (y < x) ∧ k (pc + 3) ls rest E M))
  | .if_icmp .le off => len = 3 ∧ ∃ (x : Int32), ∃ (y : Int32), ∃ (rest : List Value) (tgt : Nat), st = .int y :: .int x :: rest ∧ (pc : Int) + off = (tgt : Int) ∧ (((x ≤ y) ∧ k tgt ls rest E M) ∨ (¬ (x ≤ y) ∧ k (pc + 3) ls rest E M))
  | .goto off => len = 3 ∧ ∃ (tgt : Nat), (pc : Int) + off = (tgt : Int) ∧ k tgt ls st E M
  | .ifnonnull off => len = 3 ∧ ∃ (x : Nat) (rest : List Value) (tgt : Nat), st = .ref x :: rest ∧ (pc : Int) + off = (tgt : Int) ∧ k tgt ls rest E M
  | .tableswitch dflt lo hi offs => ∃ (x : Int32) (rest : List Value) (tgt : Nat), st = .int x :: rest ∧ (pc : Int) + (if x.toInt < lo ∨ hi < x.toInt then dflt else (offs[(x.toInt - lo).toNat]?).getD dflt) = (tgt : Int) ∧ (¬ (x.toInt < lo ∨ hi < x.toInt) → (x.toInt - lo).toNat < offs.size) ∧ k tgt ls rest E M
  | .lookupswitch dflt ps => ∃ (x : Int32) (rest : List Value) (tgt : Nat), st = .int x :: rest ∧ (ps.toList.zip (ps.toList.drop 1)).all (fun (a, next) => a.1 < next.1) = true ∧ (pc : Int) + Op.lookupswitch.offset ps.toList dflt x.toInt = (tgt : Int) ∧ k tgt ls rest E M
  | .ldc ix => len = 2 ∧ ∃ (v : Value), pm_kc o ix = some v ∧ k (pc + 2) ls (v :: st) E M
  | .ldc_w ix => len = 3 ∧ ∃ (v : Int32), pm_kc o ix = some (.int v) ∧ k (pc + 3) ls (.int v :: st) E M
  | .ldc2_w ix => len = 3 ∧ ∃ (v : Int64), pm_kl o ix = some v ∧ k (pc + 3) ls (.long v :: st) E M
  | .getfield ix => len = 3 ∧ ∃ (ci kf kd : Nat) (fin : Bool) (a : Nat) (rest : List Value), pm_fr o ix = some (ci, kf, kd, fin) ∧ st = .ref a :: rest ∧ a < E.1 ∧ (E.2.2.1 a).1 = 10 + ci ∧ k (pc + 3) ls (pm_fv E M a kf kd :: rest) E M
  | .putfield ix => len = 3 ∧ ∃ (ci kf kd : Nat) (fin : Bool) (a : Nat) (rest : List Value), pm_fr o ix = some (ci, kf, kd, fin) ∧ a < E.1 ∧ (E.2.2.1 a).1 = 10 + ci ∧ (fin = true → fi = true ∧ o = ci) ∧ ((∃ x : Int32, st = .int x :: .ref a :: rest ∧ (kd = 0 ∨ (kd = 3 ∧ (x = 0 ∨ x = 1))) ∧ k (pc + 3) ls rest E (pm_si M a kf x)) ∨ (∃ x : Int64, st = .long x :: .ref a :: rest ∧ kd = 1 ∧ k (pc + 3) ls rest E (pm_sj M a kf x)) ∨ (∃ x : Nat, st = .ref x :: .ref a :: rest ∧ kd = 2 ∧ k (pc + 3) ls rest (pm_sp E a kf (some x)) M))
  | .arraylength => len = 1 ∧ ∃ (a : Nat), ∃ (rest : List Value), st = .ref a :: rest ∧ ((a < E.1 ∨ a = 4000) ∧ (E.2.2.1 a).1 < 6) ∧ k (pc + 1) ls (.int (Int32.ofNat (pm_al E a)) :: rest) E M
  | .iaload => len = 1 ∧ ∃ (i : Int32), ∃ (a : Nat), ∃ (rest : List Value), st = .int i :: .ref a :: rest ∧ (pm_ok E a 0) ∧ (vp_in i (pm_al E a)) ∧ k (pc + 1) ls (.int (M.1 a i.toNatClampNeg) :: rest) E M
  | .baload => len = 1 ∧ ∃ (i : Int32), ∃ (a : Nat), ∃ (rest : List Value), st = .int i :: .ref a :: rest ∧ (a < E.1 ∧ (E.2.2.1 a).1 = 2) ∧ (vp_in i (pm_al E a)) ∧ k (pc + 1) ls (.int (M.1 a i.toNatClampNeg) :: rest) E M
  | .laload => len = 1 ∧ ∃ (i : Int32), ∃ (a : Nat), ∃ (rest : List Value), st = .int i :: .ref a :: rest ∧ (a < E.1 ∧ (E.2.2.1 a).1 = 1) ∧ (vp_in i (pm_al E a)) ∧ k (pc + 1) ls (.long (M.2 a i.toNatClampNeg) :: rest) E M
  | .iastore => len = 1 ∧ ∃ (x : Int32), ∃ (i : Int32), ∃ (a : Nat), ∃ (rest : List Value), st = .int x :: .int i :: .ref a :: rest ∧ (a < E.1 ∧ (E.2.2.1 a).1 = 0) ∧ (vp_in i (pm_al E a)) ∧ k (pc + 1) ls (rest) E (pm_si M a i.toNatClampNeg x)
  | .bastore => len = 1 ∧ ∃ (x : Int32), ∃ (i : Int32), ∃ (a : Nat), ∃ (rest : List Value), st = .int x :: .int i :: .ref a :: rest ∧ (a < E.1 ∧ (E.2.2.1 a).1 = 2) ∧ (vp_in i (pm_al E a)) ∧ (x = 0 ∨ x = 1) ∧ k (pc + 1) ls (rest) E (pm_si M a i.toNatClampNeg x)
  | .lastore => len = 1 ∧ ∃ (x : Int64), ∃ (i : Int32), ∃ (a : Nat), ∃ (rest : List Value), st = .long x :: .int i :: .ref a :: rest ∧ (a < E.1 ∧ (E.2.2.1 a).1 = 1) ∧ (vp_in i (pm_al E a)) ∧ k (pc + 1) ls (rest) E (pm_sj M a i.toNatClampNeg x)
  | .aaload => len = 1 ∧ ∃ (i : Int32), ∃ (a : Nat), ∃ (rest : List Value), st = .int i :: .ref a :: rest ∧ (a < E.1 ∧ 3 ≤ (E.2.2.1 a).1 ∧ (E.2.2.1 a).1 < 6) ∧ (vp_in i (pm_al E a)) ∧ k (pc + 1) ls (pm_rf (E.2.2.2 a i.toNatClampNeg) :: rest) E M
  | .aastore => len = 1 ∧ ∃ (x : Nat), ∃ (i : Int32), ∃ (a : Nat), ∃ (rest : List Value), st = .ref x :: .int i :: .ref a :: rest ∧ (a < E.1 ∧ 3 ≤ (E.2.2.1 a).1 ∧ (E.2.2.1 a).1 < 6) ∧ (vp_in i (pm_al E a)) ∧ (x < E.1 ∧ (E.2.2.1 x).1 = 10 + pm_ae (E.2.2.1 a).1) ∧ k (pc + 1) ls (rest) (pm_sp E a i.toNatClampNeg (some x)) M
  | .new ix => len = 3 ∧ ∃ (ci : Nat), pm_cn o ix = some ci ∧ E.1 < 4000 ∧ k (pc + 3) ls (.ref E.1 :: st) (pm_ne E (10 + ci) (pm_nf ci) 0) (pm_nm E M)
  | .newarray ty => len = 2 ∧ ∃ (n : Int32) (kd : Nat) (rest : List Value), st = .int n :: rest ∧ pm_at ty = some kd ∧ ¬ n < 0 ∧ n.toNatClampNeg ≤ 100000 ∧ E.1 < 4000 ∧ k (pc + 2) ls (.ref E.1 :: rest) (pm_ne E kd n.toNatClampNeg n.toNatClampNeg) (pm_nm E M)
  | .anewarray ix => len = 3 ∧ ∃ (n : Int32) (kd : Nat) (rest : List Value), st = .int n :: rest ∧ pm_an o ix = some kd ∧ ¬ n < 0 ∧ n.toNatClampNeg ≤ 100000 ∧ E.1 < 4000 ∧ k (pc + 3) ls (.ref E.1 :: rest) (pm_ne E kd n.toNatClampNeg n.toNatClampNeg) (pm_nm E M)
  | .invokevirtual ix => len = 3 ∧ ((∃ (y a : Nat) (As rest : List Value) (r : Option Value) (E1 : pm_E) (M1 : pm_M), pm_mv o ix = some y ∧ st = As.reverse ++ .ref a :: rest ∧ As.length = pm_np y ∧ pm_cat rest ≤ 8 ∧ a < E.1 ∧ (E.2.2.1 a).1 = 10 + pm_oc y ∧ cal y (.ref a :: As) E M (r, E1, M1) ∧ k (pc + 3) ls (r.toList ++ rest) E1 M1) ∨ (∃ (j : Nat) (rest : List Value), pm_sv o ix = some 0 ∧ j < 3 ∧ st = .ref (4001 + j) :: rest ∧ pm_cat rest ≤ 8 ∧ k (pc + 3) ls (.int (Int32.ofNat (pm_sl j)) :: rest) E M) ∨ (∃ (j : Nat) (i : Int32) (rest : List Value), pm_sv o ix = some 1 ∧ j < 3 ∧ st = .int i :: .ref (4001 + j) :: rest ∧ vp_in i (pm_sl j) ∧ pm_cat rest ≤ 8 ∧ k (pc + 3) ls (.int (pm_sc j i.toNatClampNeg) :: rest) E M))
  | .invokestatic ix => len = 3 ∧ ((∃ (y : Nat) (As rest : List Value) (r : Option Value) (E1 : pm_E) (M1 : pm_M), pm_ms o ix = some y ∧ st = As.reverse ++ rest ∧ As.length = pm_np y ∧ pm_cat rest ≤ 8 ∧ cal y (As) E M (r, E1, M1) ∧ k (pc + 3) ls (r.toList ++ rest) E1 M1) ∨ (∃ (a c : Nat) (sp dp n : Int32) (rest : List Value), pm_ac o ix = true ∧ st = .int n :: .int dp :: .ref c :: .int sp :: .ref a :: rest ∧ a < E.1 ∧ c < E.1 ∧ (E.2.2.1 a).1 = 0 ∧ (E.2.2.1 c).1 = 0 ∧ ¬ sp < 0 ∧ ¬ dp < 0 ∧ ¬ n < 0 ∧ sp.toNatClampNeg + n.toNatClampNeg ≤ pm_al E a ∧ dp.toNatClampNeg + n.toNatClampNeg ≤ pm_al E c ∧ pm_cat rest ≤ 8 ∧ k (pc + 3) ls rest E (pm_ri M c (va_cpy (M.1 a) (M.1 c) sp.toNatClampNeg dp.toNatClampNeg n.toNatClampNeg))))
  | .invokespecial ix => len = 3 ∧ ((∃ (y a : Nat) (As rest : List Value) (r : Option Value) (E1 : pm_E) (M1 : pm_M), pm_mi o ix = some y ∧ st = As.reverse ++ .ref a :: rest ∧ As.length = pm_np y ∧ pm_cat rest ≤ 8 ∧ cal y (.ref a :: As) E M (r, E1, M1) ∧ k (pc + 3) ls (r.toList ++ rest) E1 M1) ∨ (∃ (a : Nat) (rest : List Value), pm_oi o ix = true ∧ st = .ref a :: rest ∧ pm_cat rest ≤ 8 ∧ k (pc + 3) ls rest E M))
  | .ireturn => len = 1 ∧ ∃ v : Int32, st = [.int v] ∧ (rt = some .int ∨ (rt = some .boolean ∧ (v = 0 ∨ v = 1))) ∧ res = (some (.int v), E, M)
  | .lreturn => len = 1 ∧ ∃ v : Int64, st = [.long v] ∧ rt = some .long ∧ res = (some (.long v), E, M)
  | .return_ => len = 1 ∧ st = [] ∧ rt = none ∧ res = (none, E, M)
  | _ => False
def pm_R (cal : pm_C) (b : ByteArray) (o : Nat) (rt : Option FieldType) (fi : Bool) : Nat → Nat → List Value → List Value → pm_E → pm_M → pm_Z → Prop
  | 0, _, _, _, _, _, _ => False
  | n + 1, pc, ls, st, E, M, res => ∃ (i : Instr) (len : Nat), decode b pc = .ok (i, len) ∧ pm_I cal o rt fi pc ls st E M res i len (fun pc ls st E M => pm_R cal b o rt fi n pc ls st E M res)
/-- the methods by their numbers, down to a depth of calls -/
def pm_cal : Nat → pm_C
  | 0, _, _, _, _, _ => False
  | d + 1, y, as, E, M, res => y < pm_ny ∧ (as.flatMap (fun v => if pm_lg v then [v, Value.null] else [v])).length ≤ pm_mx y ∧ ∃ n, pm_R (pm_cal d) (pm_by y) (pm_oc y) (pm_rt y) (pm_fi y) n 0 (pm_ent as (pm_mx y)) [] E M res
def pm_wp (cal : pm_C) (b : ByteArray) (o : Nat) (rt : Option FieldType) (fi : Bool) (pc : Nat) (ls st : List Value) (E : pm_E) (M : pm_M) (Q : Option Value → pm_E → pm_M → Prop) : Prop := ∃ (n : Nat) (res : pm_Z), pm_R cal b o rt fi n pc ls st E M res ∧ Q res.1 res.2.1 res.2.2
def pm_callI (cal : pm_C) (y : Nat) (as : List Value) (E : pm_E) (M : pm_M) (Q : Int32 → pm_E → pm_M → Prop) : Prop := ∃ z : pm_Z, cal y as E M z ∧ ∃ v : Int32, z.1 = some (.int v) ∧ Q v z.2.1 z.2.2
def pm_callL (cal : pm_C) (y : Nat) (as : List Value) (E : pm_E) (M : pm_M) (Q : Int64 → pm_E → pm_M → Prop) : Prop := ∃ z : pm_Z, cal y as E M z ∧ ∃ v : Int64, z.1 = some (.long v) ∧ Q v z.2.1 z.2.2
def pm_callV (cal : pm_C) (y : Nat) (as : List Value) (E : pm_E) (M : pm_M) (Q : pm_E → pm_M → Prop) : Prop := ∃ z : pm_Z, cal y as E M z ∧ z.1 = none ∧ Q z.2.1 z.2.2
theorem pm_toI {d y : Nat} {as : List Value} {E : pm_E} {M : pm_M} {Q : Int32 → pm_E → pm_M → Prop} (hy : y < pm_ny) (hl : (as.flatMap (fun v => if pm_lg v then [v, Value.null] else [v])).length ≤ pm_mx y) (h : pm_wp (pm_cal d) (pm_by y) (pm_oc y) (pm_rt y) (pm_fi y) 0 (pm_ent as (pm_mx y)) [] E M (fun r E1 M1 => ∃ v : Int32, r = some (.int v) ∧ Q v E1 M1)) : pm_callI (pm_cal (d + 1)) y as E M Q := by
  obtain ⟨n, res, h, q⟩ := h
  exact ⟨res, ⟨hy, hl, n, h⟩, q⟩
theorem pm_toL {d y : Nat} {as : List Value} {E : pm_E} {M : pm_M} {Q : Int64 → pm_E → pm_M → Prop} (hy : y < pm_ny) (hl : (as.flatMap (fun v => if pm_lg v then [v, Value.null] else [v])).length ≤ pm_mx y) (h : pm_wp (pm_cal d) (pm_by y) (pm_oc y) (pm_rt y) (pm_fi y) 0 (pm_ent as (pm_mx y)) [] E M (fun r E1 M1 => ∃ v : Int64, r = some (.long v) ∧ Q v E1 M1)) : pm_callL (pm_cal (d + 1)) y as E M Q := by
  obtain ⟨n, res, h, q⟩ := h
  exact ⟨res, ⟨hy, hl, n, h⟩, q⟩
theorem pm_toV {d y : Nat} {as : List Value} {E : pm_E} {M : pm_M} {Q : pm_E → pm_M → Prop} (hy : y < pm_ny) (hl : (as.flatMap (fun v => if pm_lg v then [v, Value.null] else [v])).length ≤ pm_mx y) (h : pm_wp (pm_cal d) (pm_by y) (pm_oc y) (pm_rt y) (pm_fi y) 0 (pm_ent as (pm_mx y)) [] E M (fun r E1 M1 => r = none ∧ Q E1 M1)) : pm_callV (pm_cal (d + 1)) y as E M Q := by
  obtain ⟨n, res, h, q⟩ := h
  exact ⟨res, ⟨hy, hl, n, h⟩, q⟩
theorem s_iconst {cal : pm_C} {b : ByteArray} {o : Nat} {rt : Option FieldType} {fi : Bool} {pc : Nat} {ls st : List Value} {E : pm_E} {M : pm_M} {Q : Option Value → pm_E → pm_M → Prop} {n : Int}  (hc : decode b pc = .ok (.iconst n, 1))  (h : pm_wp cal b o rt fi (pc + 1) ls (.int (Int32.ofInt n) :: st) E M Q) : pm_wp cal b o rt fi pc ls (st) E M Q := by
  obtain ⟨n, res, h, q⟩ := h
  exact ⟨n + 1, res, ⟨_, _, hc, rfl, _, rfl, h⟩, q⟩
theorem s_bipush {cal : pm_C} {b : ByteArray} {o : Nat} {rt : Option FieldType} {fi : Bool} {pc : Nat} {ls st : List Value} {E : pm_E} {M : pm_M} {Q : Option Value → pm_E → pm_M → Prop} {n : Int}  (hc : decode b pc = .ok (.bipush n, 2))  (h : pm_wp cal b o rt fi (pc + 2) ls (.int (Int8.ofInt n).toInt32 :: st) E M Q) : pm_wp cal b o rt fi pc ls (st) E M Q := by
  obtain ⟨n, res, h, q⟩ := h
  exact ⟨n + 1, res, ⟨_, _, hc, rfl, _, rfl, h⟩, q⟩
theorem s_sipush {cal : pm_C} {b : ByteArray} {o : Nat} {rt : Option FieldType} {fi : Bool} {pc : Nat} {ls st : List Value} {E : pm_E} {M : pm_M} {Q : Option Value → pm_E → pm_M → Prop} {n : Int}  (hc : decode b pc = .ok (.sipush n, 3))  (h : pm_wp cal b o rt fi (pc + 3) ls (.int (Int16.ofInt n).toInt32 :: st) E M Q) : pm_wp cal b o rt fi pc ls (st) E M Q := by
  obtain ⟨n, res, h, q⟩ := h
  exact ⟨n + 1, res, ⟨_, _, hc, rfl, _, rfl, h⟩, q⟩
theorem s_lconst {cal : pm_C} {b : ByteArray} {o : Nat} {rt : Option FieldType} {fi : Bool} {pc : Nat} {ls st : List Value} {E : pm_E} {M : pm_M} {Q : Option Value → pm_E → pm_M → Prop} {n : Fin 2}  (hc : decode b pc = .ok (.lconst n, 1))  (h : pm_wp cal b o rt fi (pc + 1) ls (.long (Int64.ofNat (n : Nat)) :: st) E M Q) : pm_wp cal b o rt fi pc ls (st) E M Q := by
  obtain ⟨n, res, h, q⟩ := h
  exact ⟨n + 1, res, ⟨_, _, hc, rfl, _, rfl, h⟩, q⟩
theorem s_iload {cal : pm_C} {b : ByteArray} {o : Nat} {rt : Option FieldType} {fi : Bool} {pc : Nat} {ls st : List Value} {E : pm_E} {M : pm_M} {Q : Option Value → pm_E → pm_M → Prop} {i : Nat} {x : Int32} (hc : decode b pc = .ok (.iload i, 2)) (hl : ls[i]? = some (.int x)) (h : pm_wp cal b o rt fi (pc + 2) ls (.int x :: st) E M Q) : pm_wp cal b o rt fi pc ls (st) E M Q := by
  obtain ⟨n, res, h, q⟩ := h
  exact ⟨n + 1, res, ⟨_, _, hc, rfl, _, _, rfl, hl, h⟩, q⟩
theorem s_iload_n {cal : pm_C} {b : ByteArray} {o : Nat} {rt : Option FieldType} {fi : Bool} {pc : Nat} {ls st : List Value} {E : pm_E} {M : pm_M} {Q : Option Value → pm_E → pm_M → Prop} {i : Fin 4} {x : Int32} (hc : decode b pc = .ok (.iload_n i, 1)) (hl : ls[(i : Nat)]? = some (.int x)) (h : pm_wp cal b o rt fi (pc + 1) ls (.int x :: st) E M Q) : pm_wp cal b o rt fi pc ls (st) E M Q := by
  obtain ⟨n, res, h, q⟩ := h
  exact ⟨n + 1, res, ⟨_, _, hc, rfl, _, _, rfl, hl, h⟩, q⟩
theorem s_istore {cal : pm_C} {b : ByteArray} {o : Nat} {rt : Option FieldType} {fi : Bool} {pc : Nat} {ls st : List Value} {E : pm_E} {M : pm_M} {Q : Option Value → pm_E → pm_M → Prop} {i : Nat} {x : Int32} (hc : decode b pc = .ok (.istore i, 2)) (hn : i < ls.length) (h : pm_wp cal b o rt fi (pc + 2) (pm_sto ls i (.int x)) (st) E M Q) : pm_wp cal b o rt fi pc ls (.int x :: st) E M Q := by
  obtain ⟨n, res, h, q⟩ := h
  exact ⟨n + 1, res, ⟨_, _, hc, rfl, _, _, rfl, hn, h⟩, q⟩
theorem s_istore_n {cal : pm_C} {b : ByteArray} {o : Nat} {rt : Option FieldType} {fi : Bool} {pc : Nat} {ls st : List Value} {E : pm_E} {M : pm_M} {Q : Option Value → pm_E → pm_M → Prop} {i : Fin 4} {x : Int32} (hc : decode b pc = .ok (.istore_n i, 1)) (hn : (i : Nat) < ls.length) (h : pm_wp cal b o rt fi (pc + 1) (pm_sto ls (i : Nat) (.int x)) (st) E M Q) : pm_wp cal b o rt fi pc ls (.int x :: st) E M Q := by
  obtain ⟨n, res, h, q⟩ := h
  exact ⟨n + 1, res, ⟨_, _, hc, rfl, _, _, rfl, hn, h⟩, q⟩
theorem s_lload {cal : pm_C} {b : ByteArray} {o : Nat} {rt : Option FieldType} {fi : Bool} {pc : Nat} {ls st : List Value} {E : pm_E} {M : pm_M} {Q : Option Value → pm_E → pm_M → Prop} {i : Nat} {x : Int64} (hc : decode b pc = .ok (.lload i, 2)) (hl : ls[i]? = some (.long x)) (h : pm_wp cal b o rt fi (pc + 2) ls (.long x :: st) E M Q) : pm_wp cal b o rt fi pc ls (st) E M Q := by
  obtain ⟨n, res, h, q⟩ := h
  exact ⟨n + 1, res, ⟨_, _, hc, rfl, _, _, rfl, hl, h⟩, q⟩
theorem s_lload_n {cal : pm_C} {b : ByteArray} {o : Nat} {rt : Option FieldType} {fi : Bool} {pc : Nat} {ls st : List Value} {E : pm_E} {M : pm_M} {Q : Option Value → pm_E → pm_M → Prop} {i : Fin 4} {x : Int64} (hc : decode b pc = .ok (.lload_n i, 1)) (hl : ls[(i : Nat)]? = some (.long x)) (h : pm_wp cal b o rt fi (pc + 1) ls (.long x :: st) E M Q) : pm_wp cal b o rt fi pc ls (st) E M Q := by
  obtain ⟨n, res, h, q⟩ := h
  exact ⟨n + 1, res, ⟨_, _, hc, rfl, _, _, rfl, hl, h⟩, q⟩
theorem s_lstore {cal : pm_C} {b : ByteArray} {o : Nat} {rt : Option FieldType} {fi : Bool} {pc : Nat} {ls st : List Value} {E : pm_E} {M : pm_M} {Q : Option Value → pm_E → pm_M → Prop} {i : Nat} {x : Int64} (hc : decode b pc = .ok (.lstore i, 2)) (hn : i + 1 < ls.length) (h : pm_wp cal b o rt fi (pc + 2) (pm_sto ls i (.long x)) (st) E M Q) : pm_wp cal b o rt fi pc ls (.long x :: st) E M Q := by
  obtain ⟨n, res, h, q⟩ := h
  exact ⟨n + 1, res, ⟨_, _, hc, rfl, _, _, rfl, hn, h⟩, q⟩
theorem s_lstore_n {cal : pm_C} {b : ByteArray} {o : Nat} {rt : Option FieldType} {fi : Bool} {pc : Nat} {ls st : List Value} {E : pm_E} {M : pm_M} {Q : Option Value → pm_E → pm_M → Prop} {i : Fin 4} {x : Int64} (hc : decode b pc = .ok (.lstore_n i, 1)) (hn : (i : Nat) + 1 < ls.length) (h : pm_wp cal b o rt fi (pc + 1) (pm_sto ls (i : Nat) (.long x)) (st) E M Q) : pm_wp cal b o rt fi pc ls (.long x :: st) E M Q := by
  obtain ⟨n, res, h, q⟩ := h
  exact ⟨n + 1, res, ⟨_, _, hc, rfl, _, _, rfl, hn, h⟩, q⟩
theorem s_aload {cal : pm_C} {b : ByteArray} {o : Nat} {rt : Option FieldType} {fi : Bool} {pc : Nat} {ls st : List Value} {E : pm_E} {M : pm_M} {Q : Option Value → pm_E → pm_M → Prop} {i : Nat} {x : Nat} (hc : decode b pc = .ok (.aload i, 2)) (hl : ls[i]? = some (.ref x)) (h : pm_wp cal b o rt fi (pc + 2) ls (.ref x :: st) E M Q) : pm_wp cal b o rt fi pc ls (st) E M Q := by
  obtain ⟨n, res, h, q⟩ := h
  exact ⟨n + 1, res, ⟨_, _, hc, rfl, _, _, rfl, hl, h⟩, q⟩
theorem s_aload_n {cal : pm_C} {b : ByteArray} {o : Nat} {rt : Option FieldType} {fi : Bool} {pc : Nat} {ls st : List Value} {E : pm_E} {M : pm_M} {Q : Option Value → pm_E → pm_M → Prop} {i : Fin 4} {x : Nat} (hc : decode b pc = .ok (.aload_n i, 1)) (hl : ls[(i : Nat)]? = some (.ref x)) (h : pm_wp cal b o rt fi (pc + 1) ls (.ref x :: st) E M Q) : pm_wp cal b o rt fi pc ls (st) E M Q := by
  obtain ⟨n, res, h, q⟩ := h
  exact ⟨n + 1, res, ⟨_, _, hc, rfl, _, _, rfl, hl, h⟩, q⟩
theorem s_astore {cal : pm_C} {b : ByteArray} {o : Nat} {rt : Option FieldType} {fi : Bool} {pc : Nat} {ls st : List Value} {E : pm_E} {M : pm_M} {Q : Option Value → pm_E → pm_M → Prop} {i : Nat} {x : Nat} (hc : decode b pc = .ok (.astore i, 2)) (hn : i < ls.length) (h : pm_wp cal b o rt fi (pc + 2) (pm_sto ls i (.ref x)) (st) E M Q) : pm_wp cal b o rt fi pc ls (.ref x :: st) E M Q := by
  obtain ⟨n, res, h, q⟩ := h
  exact ⟨n + 1, res, ⟨_, _, hc, rfl, _, _, rfl, hn, h⟩, q⟩
theorem s_astore_n {cal : pm_C} {b : ByteArray} {o : Nat} {rt : Option FieldType} {fi : Bool} {pc : Nat} {ls st : List Value} {E : pm_E} {M : pm_M} {Q : Option Value → pm_E → pm_M → Prop} {i : Fin 4} {x : Nat} (hc : decode b pc = .ok (.astore_n i, 1)) (hn : (i : Nat) < ls.length) (h : pm_wp cal b o rt fi (pc + 1) (pm_sto ls (i : Nat) (.ref x)) (st) E M Q) : pm_wp cal b o rt fi pc ls (.ref x :: st) E M Q := by
  obtain ⟨n, res, h, q⟩ := h
  exact ⟨n + 1, res, ⟨_, _, hc, rfl, _, _, rfl, hn, h⟩, q⟩
theorem s_iinc {cal : pm_C} {b : ByteArray} {o : Nat} {rt : Option FieldType} {fi : Bool} {pc : Nat} {ls st : List Value} {E : pm_E} {M : pm_M} {Q : Option Value → pm_E → pm_M → Prop} {i : Nat} {n : Int} {x : Int32} (hc : decode b pc = .ok (.iinc i n, 3)) (hl : ls[i]? = some (.int x)) (hn : i < ls.length) (h : pm_wp cal b o rt fi (pc + 3) (pm_sto ls i (.int (x + Int32.ofInt n))) (st) E M Q) : pm_wp cal b o rt fi pc ls (st) E M Q := by
  obtain ⟨n, res, h, q⟩ := h
  exact ⟨n + 1, res, ⟨_, _, hc, rfl, _, _, rfl, hl, hn, h⟩, q⟩
theorem s_iadd {cal : pm_C} {b : ByteArray} {o : Nat} {rt : Option FieldType} {fi : Bool} {pc : Nat} {ls st : List Value} {E : pm_E} {M : pm_M} {Q : Option Value → pm_E → pm_M → Prop}  {x : Int32} {y : Int32} (hc : decode b pc = .ok (.iadd, 1))  (h : pm_wp cal b o rt fi (pc + 1) ls (.int (x + y) :: st) E M Q) : pm_wp cal b o rt fi pc ls (.int y :: .int x :: st) E M Q := by
  obtain ⟨n, res, h, q⟩ := h
  exact ⟨n + 1, res, ⟨_, _, hc, rfl, _, _, _, rfl, h⟩, q⟩
theorem s_isub {cal : pm_C} {b : ByteArray} {o : Nat} {rt : Option FieldType} {fi : Bool} {pc : Nat} {ls st : List Value} {E : pm_E} {M : pm_M} {Q : Option Value → pm_E → pm_M → Prop}  {x : Int32} {y : Int32} (hc : decode b pc = .ok (.isub, 1))  (h : pm_wp cal b o rt fi (pc + 1) ls (.int (x - y) :: st) E M Q) : pm_wp cal b o rt fi pc ls (.int y :: .int x :: st) E M Q := by
  obtain ⟨n, res, h, q⟩ := h
  exact ⟨n + 1, res, ⟨_, _, hc, rfl, _, _, _, rfl, h⟩, q⟩
theorem s_imul {cal : pm_C} {b : ByteArray} {o : Nat} {rt : Option FieldType} {fi : Bool} {pc : Nat} {ls st : List Value} {E : pm_E} {M : pm_M} {Q : Option Value → pm_E → pm_M → Prop}  {x : Int32} {y : Int32} (hc : decode b pc = .ok (.imul, 1))  (h : pm_wp cal b o rt fi (pc + 1) ls (.int (x * y) :: st) E M Q) : pm_wp cal b o rt fi pc ls (.int y :: .int x :: st) E M Q := by
  obtain ⟨n, res, h, q⟩ := h
  exact ⟨n + 1, res, ⟨_, _, hc, rfl, _, _, _, rfl, h⟩, q⟩
theorem s_iand {cal : pm_C} {b : ByteArray} {o : Nat} {rt : Option FieldType} {fi : Bool} {pc : Nat} {ls st : List Value} {E : pm_E} {M : pm_M} {Q : Option Value → pm_E → pm_M → Prop}  {x : Int32} {y : Int32} (hc : decode b pc = .ok (.iand, 1))  (h : pm_wp cal b o rt fi (pc + 1) ls (.int (x &&& y) :: st) E M Q) : pm_wp cal b o rt fi pc ls (.int y :: .int x :: st) E M Q := by
  obtain ⟨n, res, h, q⟩ := h
  exact ⟨n + 1, res, ⟨_, _, hc, rfl, _, _, _, rfl, h⟩, q⟩
theorem s_ior {cal : pm_C} {b : ByteArray} {o : Nat} {rt : Option FieldType} {fi : Bool} {pc : Nat} {ls st : List Value} {E : pm_E} {M : pm_M} {Q : Option Value → pm_E → pm_M → Prop}  {x : Int32} {y : Int32} (hc : decode b pc = .ok (.ior, 1))  (h : pm_wp cal b o rt fi (pc + 1) ls (.int (x ||| y) :: st) E M Q) : pm_wp cal b o rt fi pc ls (.int y :: .int x :: st) E M Q := by
  obtain ⟨n, res, h, q⟩ := h
  exact ⟨n + 1, res, ⟨_, _, hc, rfl, _, _, _, rfl, h⟩, q⟩
theorem s_ixor {cal : pm_C} {b : ByteArray} {o : Nat} {rt : Option FieldType} {fi : Bool} {pc : Nat} {ls st : List Value} {E : pm_E} {M : pm_M} {Q : Option Value → pm_E → pm_M → Prop}  {x : Int32} {y : Int32} (hc : decode b pc = .ok (.ixor, 1))  (h : pm_wp cal b o rt fi (pc + 1) ls (.int (x ^^^ y) :: st) E M Q) : pm_wp cal b o rt fi pc ls (.int y :: .int x :: st) E M Q := by
  obtain ⟨n, res, h, q⟩ := h
  exact ⟨n + 1, res, ⟨_, _, hc, rfl, _, _, _, rfl, h⟩, q⟩
theorem s_ishl {cal : pm_C} {b : ByteArray} {o : Nat} {rt : Option FieldType} {fi : Bool} {pc : Nat} {ls st : List Value} {E : pm_E} {M : pm_M} {Q : Option Value → pm_E → pm_M → Prop}  {x : Int32} {y : Int32} (hc : decode b pc = .ok (.ishl, 1))  (h : pm_wp cal b o rt fi (pc + 1) ls (.int (x <<< (y &&& 31)) :: st) E M Q) : pm_wp cal b o rt fi pc ls (.int y :: .int x :: st) E M Q := by
  obtain ⟨n, res, h, q⟩ := h
  exact ⟨n + 1, res, ⟨_, _, hc, rfl, _, _, _, rfl, h⟩, q⟩
theorem s_ishr {cal : pm_C} {b : ByteArray} {o : Nat} {rt : Option FieldType} {fi : Bool} {pc : Nat} {ls st : List Value} {E : pm_E} {M : pm_M} {Q : Option Value → pm_E → pm_M → Prop}  {x : Int32} {y : Int32} (hc : decode b pc = .ok (.ishr, 1))  (h : pm_wp cal b o rt fi (pc + 1) ls (.int (x >>> (y &&& 31)) :: st) E M Q) : pm_wp cal b o rt fi pc ls (.int y :: .int x :: st) E M Q := by
  obtain ⟨n, res, h, q⟩ := h
  exact ⟨n + 1, res, ⟨_, _, hc, rfl, _, _, _, rfl, h⟩, q⟩
theorem s_iushr {cal : pm_C} {b : ByteArray} {o : Nat} {rt : Option FieldType} {fi : Bool} {pc : Nat} {ls st : List Value} {E : pm_E} {M : pm_M} {Q : Option Value → pm_E → pm_M → Prop}  {x : Int32} {y : Int32} (hc : decode b pc = .ok (.iushr, 1))  (h : pm_wp cal b o rt fi (pc + 1) ls (.int ((x.toUInt32 >>> (y.toUInt32 &&& Int32.toUInt32 31)).toInt32) :: st) E M Q) : pm_wp cal b o rt fi pc ls (.int y :: .int x :: st) E M Q := by
  obtain ⟨n, res, h, q⟩ := h
  exact ⟨n + 1, res, ⟨_, _, hc, rfl, _, _, _, rfl, h⟩, q⟩
theorem s_idiv {cal : pm_C} {b : ByteArray} {o : Nat} {rt : Option FieldType} {fi : Bool} {pc : Nat} {ls st : List Value} {E : pm_E} {M : pm_M} {Q : Option Value → pm_E → pm_M → Prop}  {x : Int32} {y : Int32} (hc : decode b pc = .ok (.idiv, 1)) (hne : ¬ y = 0) (h : pm_wp cal b o rt fi (pc + 1) ls (.int (x / y) :: st) E M Q) : pm_wp cal b o rt fi pc ls (.int y :: .int x :: st) E M Q := by
  obtain ⟨n, res, h, q⟩ := h
  exact ⟨n + 1, res, ⟨_, _, hc, rfl, _, _, _, rfl, hne, h⟩, q⟩
theorem s_irem {cal : pm_C} {b : ByteArray} {o : Nat} {rt : Option FieldType} {fi : Bool} {pc : Nat} {ls st : List Value} {E : pm_E} {M : pm_M} {Q : Option Value → pm_E → pm_M → Prop}  {x : Int32} {y : Int32} (hc : decode b pc = .ok (.irem, 1)) (hne : ¬ y = 0) (h : pm_wp cal b o rt fi (pc + 1) ls (.int (x - x / y * y) :: st) E M Q) : pm_wp cal b o rt fi pc ls (.int y :: .int x :: st) E M Q := by
  obtain ⟨n, res, h, q⟩ := h
  exact ⟨n + 1, res, ⟨_, _, hc, rfl, _, _, _, rfl, hne, h⟩, q⟩
theorem s_ladd {cal : pm_C} {b : ByteArray} {o : Nat} {rt : Option FieldType} {fi : Bool} {pc : Nat} {ls st : List Value} {E : pm_E} {M : pm_M} {Q : Option Value → pm_E → pm_M → Prop}  {x : Int64} {y : Int64} (hc : decode b pc = .ok (.ladd, 1))  (h : pm_wp cal b o rt fi (pc + 1) ls (.long (x + y) :: st) E M Q) : pm_wp cal b o rt fi pc ls (.long y :: .long x :: st) E M Q := by
  obtain ⟨n, res, h, q⟩ := h
  exact ⟨n + 1, res, ⟨_, _, hc, rfl, _, _, _, rfl, h⟩, q⟩
theorem s_lsub {cal : pm_C} {b : ByteArray} {o : Nat} {rt : Option FieldType} {fi : Bool} {pc : Nat} {ls st : List Value} {E : pm_E} {M : pm_M} {Q : Option Value → pm_E → pm_M → Prop}  {x : Int64} {y : Int64} (hc : decode b pc = .ok (.lsub, 1))  (h : pm_wp cal b o rt fi (pc + 1) ls (.long (x - y) :: st) E M Q) : pm_wp cal b o rt fi pc ls (.long y :: .long x :: st) E M Q := by
  obtain ⟨n, res, h, q⟩ := h
  exact ⟨n + 1, res, ⟨_, _, hc, rfl, _, _, _, rfl, h⟩, q⟩
theorem s_lmul {cal : pm_C} {b : ByteArray} {o : Nat} {rt : Option FieldType} {fi : Bool} {pc : Nat} {ls st : List Value} {E : pm_E} {M : pm_M} {Q : Option Value → pm_E → pm_M → Prop}  {x : Int64} {y : Int64} (hc : decode b pc = .ok (.lmul, 1))  (h : pm_wp cal b o rt fi (pc + 1) ls (.long (x * y) :: st) E M Q) : pm_wp cal b o rt fi pc ls (.long y :: .long x :: st) E M Q := by
  obtain ⟨n, res, h, q⟩ := h
  exact ⟨n + 1, res, ⟨_, _, hc, rfl, _, _, _, rfl, h⟩, q⟩
theorem s_land {cal : pm_C} {b : ByteArray} {o : Nat} {rt : Option FieldType} {fi : Bool} {pc : Nat} {ls st : List Value} {E : pm_E} {M : pm_M} {Q : Option Value → pm_E → pm_M → Prop}  {x : Int64} {y : Int64} (hc : decode b pc = .ok (.land, 1))  (h : pm_wp cal b o rt fi (pc + 1) ls (.long (x &&& y) :: st) E M Q) : pm_wp cal b o rt fi pc ls (.long y :: .long x :: st) E M Q := by
  obtain ⟨n, res, h, q⟩ := h
  exact ⟨n + 1, res, ⟨_, _, hc, rfl, _, _, _, rfl, h⟩, q⟩
theorem s_lor {cal : pm_C} {b : ByteArray} {o : Nat} {rt : Option FieldType} {fi : Bool} {pc : Nat} {ls st : List Value} {E : pm_E} {M : pm_M} {Q : Option Value → pm_E → pm_M → Prop}  {x : Int64} {y : Int64} (hc : decode b pc = .ok (.lor, 1))  (h : pm_wp cal b o rt fi (pc + 1) ls (.long (x ||| y) :: st) E M Q) : pm_wp cal b o rt fi pc ls (.long y :: .long x :: st) E M Q := by
  obtain ⟨n, res, h, q⟩ := h
  exact ⟨n + 1, res, ⟨_, _, hc, rfl, _, _, _, rfl, h⟩, q⟩
theorem s_ldiv {cal : pm_C} {b : ByteArray} {o : Nat} {rt : Option FieldType} {fi : Bool} {pc : Nat} {ls st : List Value} {E : pm_E} {M : pm_M} {Q : Option Value → pm_E → pm_M → Prop}  {x : Int64} {y : Int64} (hc : decode b pc = .ok (.ldiv, 1)) (hne : ¬ y = 0) (h : pm_wp cal b o rt fi (pc + 1) ls (.long (x / y) :: st) E M Q) : pm_wp cal b o rt fi pc ls (.long y :: .long x :: st) E M Q := by
  obtain ⟨n, res, h, q⟩ := h
  exact ⟨n + 1, res, ⟨_, _, hc, rfl, _, _, _, rfl, hne, h⟩, q⟩
theorem s_lrem {cal : pm_C} {b : ByteArray} {o : Nat} {rt : Option FieldType} {fi : Bool} {pc : Nat} {ls st : List Value} {E : pm_E} {M : pm_M} {Q : Option Value → pm_E → pm_M → Prop}  {x : Int64} {y : Int64} (hc : decode b pc = .ok (.lrem, 1)) (hne : ¬ y = 0) (h : pm_wp cal b o rt fi (pc + 1) ls (.long (x - x / y * y) :: st) E M Q) : pm_wp cal b o rt fi pc ls (.long y :: .long x :: st) E M Q := by
  obtain ⟨n, res, h, q⟩ := h
  exact ⟨n + 1, res, ⟨_, _, hc, rfl, _, _, _, rfl, hne, h⟩, q⟩
theorem s_lshl {cal : pm_C} {b : ByteArray} {o : Nat} {rt : Option FieldType} {fi : Bool} {pc : Nat} {ls st : List Value} {E : pm_E} {M : pm_M} {Q : Option Value → pm_E → pm_M → Prop}  {x : Int64} {y : Int32} (hc : decode b pc = .ok (.lshl, 1))  (h : pm_wp cal b o rt fi (pc + 1) ls (.long (x <<< (y.toInt64 &&& 63)) :: st) E M Q) : pm_wp cal b o rt fi pc ls (.int y :: .long x :: st) E M Q := by
  obtain ⟨n, res, h, q⟩ := h
  exact ⟨n + 1, res, ⟨_, _, hc, rfl, _, _, _, rfl, h⟩, q⟩
theorem s_lshr {cal : pm_C} {b : ByteArray} {o : Nat} {rt : Option FieldType} {fi : Bool} {pc : Nat} {ls st : List Value} {E : pm_E} {M : pm_M} {Q : Option Value → pm_E → pm_M → Prop}  {x : Int64} {y : Int32} (hc : decode b pc = .ok (.lshr, 1))  (h : pm_wp cal b o rt fi (pc + 1) ls (.long (x >>> (y.toInt64 &&& 63)) :: st) E M Q) : pm_wp cal b o rt fi pc ls (.int y :: .long x :: st) E M Q := by
  obtain ⟨n, res, h, q⟩ := h
  exact ⟨n + 1, res, ⟨_, _, hc, rfl, _, _, _, rfl, h⟩, q⟩
theorem s_lcmp {cal : pm_C} {b : ByteArray} {o : Nat} {rt : Option FieldType} {fi : Bool} {pc : Nat} {ls st : List Value} {E : pm_E} {M : pm_M} {Q : Option Value → pm_E → pm_M → Prop}  {x : Int64} {y : Int64} (hc : decode b pc = .ok (.lcmp, 1))  (h : pm_wp cal b o rt fi (pc + 1) ls (.int (lg_cmp x y) :: st) E M Q) : pm_wp cal b o rt fi pc ls (.long y :: .long x :: st) E M Q := by
  obtain ⟨n, res, h, q⟩ := h
  exact ⟨n + 1, res, ⟨_, _, hc, rfl, _, _, _, rfl, h⟩, q⟩
theorem s_i2l {cal : pm_C} {b : ByteArray} {o : Nat} {rt : Option FieldType} {fi : Bool} {pc : Nat} {ls st : List Value} {E : pm_E} {M : pm_M} {Q : Option Value → pm_E → pm_M → Prop}  {x : Int32} (hc : decode b pc = .ok (.i2l, 1))  (h : pm_wp cal b o rt fi (pc + 1) ls (.long x.toInt64 :: st) E M Q) : pm_wp cal b o rt fi pc ls (.int x :: st) E M Q := by
  obtain ⟨n, res, h, q⟩ := h
  exact ⟨n + 1, res, ⟨_, _, hc, rfl, _, _, rfl, h⟩, q⟩
theorem s_l2i {cal : pm_C} {b : ByteArray} {o : Nat} {rt : Option FieldType} {fi : Bool} {pc : Nat} {ls st : List Value} {E : pm_E} {M : pm_M} {Q : Option Value → pm_E → pm_M → Prop}  {x : Int64} (hc : decode b pc = .ok (.l2i, 1))  (h : pm_wp cal b o rt fi (pc + 1) ls (.int x.toInt32 :: st) E M Q) : pm_wp cal b o rt fi pc ls (.long x :: st) E M Q := by
  obtain ⟨n, res, h, q⟩ := h
  exact ⟨n + 1, res, ⟨_, _, hc, rfl, _, _, rfl, h⟩, q⟩
theorem s_i2b {cal : pm_C} {b : ByteArray} {o : Nat} {rt : Option FieldType} {fi : Bool} {pc : Nat} {ls st : List Value} {E : pm_E} {M : pm_M} {Q : Option Value → pm_E → pm_M → Prop}  {x : Int32} (hc : decode b pc = .ok (.i2b, 1))  (h : pm_wp cal b o rt fi (pc + 1) ls (.int x.toInt8.toInt32 :: st) E M Q) : pm_wp cal b o rt fi pc ls (.int x :: st) E M Q := by
  obtain ⟨n, res, h, q⟩ := h
  exact ⟨n + 1, res, ⟨_, _, hc, rfl, _, _, rfl, h⟩, q⟩
theorem s_i2s {cal : pm_C} {b : ByteArray} {o : Nat} {rt : Option FieldType} {fi : Bool} {pc : Nat} {ls st : List Value} {E : pm_E} {M : pm_M} {Q : Option Value → pm_E → pm_M → Prop}  {x : Int32} (hc : decode b pc = .ok (.i2s, 1))  (h : pm_wp cal b o rt fi (pc + 1) ls (.int x.toInt16.toInt32 :: st) E M Q) : pm_wp cal b o rt fi pc ls (.int x :: st) E M Q := by
  obtain ⟨n, res, h, q⟩ := h
  exact ⟨n + 1, res, ⟨_, _, hc, rfl, _, _, rfl, h⟩, q⟩
theorem s_dup {cal : pm_C} {b : ByteArray} {o : Nat} {rt : Option FieldType} {fi : Bool} {pc : Nat} {ls st : List Value} {E : pm_E} {M : pm_M} {Q : Option Value → pm_E → pm_M → Prop}  {x : Value} (hc : decode b pc = .ok (.dup, 1)) (hx : x.category = 1) (h : pm_wp cal b o rt fi (pc + 1) ls (x :: x :: st) E M Q) : pm_wp cal b o rt fi pc ls (x :: st) E M Q := by
  obtain ⟨n, res, h, q⟩ := h
  exact ⟨n + 1, res, ⟨_, _, hc, rfl, _, _, rfl, hx, h⟩, q⟩
theorem s_pop {cal : pm_C} {b : ByteArray} {o : Nat} {rt : Option FieldType} {fi : Bool} {pc : Nat} {ls st : List Value} {E : pm_E} {M : pm_M} {Q : Option Value → pm_E → pm_M → Prop}  {x : Value} (hc : decode b pc = .ok (.pop, 1)) (hx : x.category = 1) (h : pm_wp cal b o rt fi (pc + 1) ls (st) E M Q) : pm_wp cal b o rt fi pc ls (x :: st) E M Q := by
  obtain ⟨n, res, h, q⟩ := h
  exact ⟨n + 1, res, ⟨_, _, hc, rfl, _, _, rfl, hx, h⟩, q⟩
theorem s_pop2 {cal : pm_C} {b : ByteArray} {o : Nat} {rt : Option FieldType} {fi : Bool} {pc : Nat} {ls st : List Value} {E : pm_E} {M : pm_M} {Q : Option Value → pm_E → pm_M → Prop}  {x : Value} (hc : decode b pc = .ok (.pop2, 1)) (hx : x.category = 2) (h : pm_wp cal b o rt fi (pc + 1) ls (st) E M Q) : pm_wp cal b o rt fi pc ls (x :: st) E M Q := by
  obtain ⟨n, res, h, q⟩ := h
  exact ⟨n + 1, res, ⟨_, _, hc, rfl, _, _, rfl, hx, h⟩, q⟩
theorem s_dup2 {cal : pm_C} {b : ByteArray} {o : Nat} {rt : Option FieldType} {fi : Bool} {pc : Nat} {ls st : List Value} {E : pm_E} {M : pm_M} {Q : Option Value → pm_E → pm_M → Prop} {x y : Value} (hc : decode b pc = .ok (.dup2, 1)) (hx : x.category = 1) (hy : y.category = 1) (h : pm_wp cal b o rt fi (pc + 1) ls (x :: y :: x :: y :: st) E M Q) : pm_wp cal b o rt fi pc ls (x :: y :: st) E M Q := by
  obtain ⟨n, res, h, q⟩ := h
  exact ⟨n + 1, res, ⟨_, _, hc, rfl, Or.inl ⟨_, _, _, rfl, hx, hy, h⟩⟩, q⟩
theorem s_dup2L {cal : pm_C} {b : ByteArray} {o : Nat} {rt : Option FieldType} {fi : Bool} {pc : Nat} {ls st : List Value} {E : pm_E} {M : pm_M} {Q : Option Value → pm_E → pm_M → Prop} {x : Value} (hc : decode b pc = .ok (.dup2, 1)) (hx : x.category = 2) (h : pm_wp cal b o rt fi (pc + 1) ls (x :: x :: st) E M Q) : pm_wp cal b o rt fi pc ls (x :: st) E M Q := by
  obtain ⟨n, res, h, q⟩ := h
  exact ⟨n + 1, res, ⟨_, _, hc, rfl, Or.inr ⟨_, _, rfl, hx, h⟩⟩, q⟩
theorem s_if_eq {cal : pm_C} {b : ByteArray} {o : Nat} {rt : Option FieldType} {fi : Bool} {pc : Nat} {ls st : List Value} {E : pm_E} {M : pm_M} {Q : Option Value → pm_E → pm_M → Prop} {x : Int32} {off : Int} {tgt : Nat} (hc : decode b pc = .ok (.ifCond .eq off, 3)) (ht : (pc : Int) + off = (tgt : Int)) (h1 : x = 0 → pm_wp cal b o rt fi tgt ls st E M Q) (h2 : ¬ (x = 0) → pm_wp cal b o rt fi (pc + 3) ls st E M Q) : pm_wp cal b o rt fi pc ls (.int x :: st) E M Q := by
  by_cases c : x = 0
  · obtain ⟨n, res, h, q⟩ := h1 c
    exact ⟨n + 1, res, ⟨_, _, hc, rfl, _, _, _, rfl, ht, Or.inl ⟨c, h⟩⟩, q⟩
  · obtain ⟨n, res, h, q⟩ := h2 c
    exact ⟨n + 1, res, ⟨_, _, hc, rfl, _, _, _, rfl, ht, Or.inr ⟨c, h⟩⟩, q⟩
theorem s_if_ne {cal : pm_C} {b : ByteArray} {o : Nat} {rt : Option FieldType} {fi : Bool} {pc : Nat} {ls st : List Value} {E : pm_E} {M : pm_M} {Q : Option Value → pm_E → pm_M → Prop} {x : Int32} {off : Int} {tgt : Nat} (hc : decode b pc = .ok (.ifCond .ne off, 3)) (ht : (pc : Int) + off = (tgt : Int)) (h1 : ¬ x = 0 → pm_wp cal b o rt fi tgt ls st E M Q) (h2 : ¬ (¬ x = 0) → pm_wp cal b o rt fi (pc + 3) ls st E M Q) : pm_wp cal b o rt fi pc ls (.int x :: st) E M Q := by
  by_cases c : ¬ x = 0
  · obtain ⟨n, res, h, q⟩ := h1 c
    exact ⟨n + 1, res, ⟨_, _, hc, rfl, _, _, _, rfl, ht, Or.inl ⟨c, h⟩⟩, q⟩
  · obtain ⟨n, res, h, q⟩ := h2 c
    exact ⟨n + 1, res, ⟨_, _, hc, rfl, _, _, _, rfl, ht, Or.inr ⟨c, h⟩⟩, q⟩
theorem s_if_lt {cal : pm_C} {b : ByteArray} {o : Nat} {rt : Option FieldType} {fi : Bool} {pc : Nat} {ls st : List Value} {E : pm_E} {M : pm_M} {Q : Option Value → pm_E → pm_M → Prop} {x : Int32} {off : Int} {tgt : Nat} (hc : decode b pc = .ok (.ifCond .lt off, 3)) (ht : (pc : Int) + off = (tgt : Int)) (h1 : x < 0 → pm_wp cal b o rt fi tgt ls st E M Q) (h2 : ¬ (x < 0) → pm_wp cal b o rt fi (pc + 3) ls st E M Q) : pm_wp cal b o rt fi pc ls (.int x :: st) E M Q := by
  by_cases c : x < 0
  · obtain ⟨n, res, h, q⟩ := h1 c
    exact ⟨n + 1, res, ⟨_, _, hc, rfl, _, _, _, rfl, ht, Or.inl ⟨c, h⟩⟩, q⟩
  · obtain ⟨n, res, h, q⟩ := h2 c
    exact ⟨n + 1, res, ⟨_, _, hc, rfl, _, _, _, rfl, ht, Or.inr ⟨c, h⟩⟩, q⟩
theorem s_if_ge {cal : pm_C} {b : ByteArray} {o : Nat} {rt : Option FieldType} {fi : Bool} {pc : Nat} {ls st : List Value} {E : pm_E} {M : pm_M} {Q : Option Value → pm_E → pm_M → Prop} {x : Int32} {off : Int} {tgt : Nat} (hc : decode b pc = .ok (.ifCond .ge off, 3)) (ht : (pc : Int) + off = (tgt : Int)) (h1 : 0 ≤ x → pm_wp cal b o rt fi tgt ls st E M Q) (h2 : ¬ (0 ≤ x) → pm_wp cal b o rt fi (pc + 3) ls st E M Q) : pm_wp cal b o rt fi pc ls (.int x :: st) E M Q := by
  by_cases c : 0 ≤ x
  · obtain ⟨n, res, h, q⟩ := h1 c
    exact ⟨n + 1, res, ⟨_, _, hc, rfl, _, _, _, rfl, ht, Or.inl ⟨c, h⟩⟩, q⟩
  · obtain ⟨n, res, h, q⟩ := h2 c
    exact ⟨n + 1, res, ⟨_, _, hc, rfl, _, _, _, rfl, ht, Or.inr ⟨c, h⟩⟩, q⟩
theorem s_if_gt {cal : pm_C} {b : ByteArray} {o : Nat} {rt : Option FieldType} {fi : Bool} {pc : Nat} {ls st : List Value} {E : pm_E} {M : pm_M} {Q : Option Value → pm_E → pm_M → Prop} {x : Int32} {off : Int} {tgt : Nat} (hc : decode b pc = .ok (.ifCond .gt off, 3)) (ht : (pc : Int) + off = (tgt : Int)) (h1 : 0 < x → pm_wp cal b o rt fi tgt ls st E M Q) (h2 : ¬ (0 < x) → pm_wp cal b o rt fi (pc + 3) ls st E M Q) : pm_wp cal b o rt fi pc ls (.int x :: st) E M Q := by
  by_cases c : 0 < x
  · obtain ⟨n, res, h, q⟩ := h1 c
    exact ⟨n + 1, res, ⟨_, _, hc, rfl, _, _, _, rfl, ht, Or.inl ⟨c, h⟩⟩, q⟩
  · obtain ⟨n, res, h, q⟩ := h2 c
    exact ⟨n + 1, res, ⟨_, _, hc, rfl, _, _, _, rfl, ht, Or.inr ⟨c, h⟩⟩, q⟩
theorem s_if_le {cal : pm_C} {b : ByteArray} {o : Nat} {rt : Option FieldType} {fi : Bool} {pc : Nat} {ls st : List Value} {E : pm_E} {M : pm_M} {Q : Option Value → pm_E → pm_M → Prop} {x : Int32} {off : Int} {tgt : Nat} (hc : decode b pc = .ok (.ifCond .le off, 3)) (ht : (pc : Int) + off = (tgt : Int)) (h1 : x ≤ 0 → pm_wp cal b o rt fi tgt ls st E M Q) (h2 : ¬ (x ≤ 0) → pm_wp cal b o rt fi (pc + 3) ls st E M Q) : pm_wp cal b o rt fi pc ls (.int x :: st) E M Q := by
  by_cases c : x ≤ 0
  · obtain ⟨n, res, h, q⟩ := h1 c
    exact ⟨n + 1, res, ⟨_, _, hc, rfl, _, _, _, rfl, ht, Or.inl ⟨c, h⟩⟩, q⟩
  · obtain ⟨n, res, h, q⟩ := h2 c
    exact ⟨n + 1, res, ⟨_, _, hc, rfl, _, _, _, rfl, ht, Or.inr ⟨c, h⟩⟩, q⟩
theorem s_icmp_eq {cal : pm_C} {b : ByteArray} {o : Nat} {rt : Option FieldType} {fi : Bool} {pc : Nat} {ls st : List Value} {E : pm_E} {M : pm_M} {Q : Option Value → pm_E → pm_M → Prop} {x : Int32} {y : Int32} {off : Int} {tgt : Nat} (hc : decode b pc = .ok (.if_icmp .eq off, 3)) (ht : (pc : Int) + off = (tgt : Int)) (h1 : x = y → pm_wp cal b o rt fi tgt ls st E M Q) (h2 : ¬ (x = y) → pm_wp cal b o rt fi (pc + 3) ls st E M Q) : pm_wp cal b o rt fi pc ls (.int y :: .int x :: st) E M Q := by
  by_cases c : x = y
  · obtain ⟨n, res, h, q⟩ := h1 c
    exact ⟨n + 1, res, ⟨_, _, hc, rfl, _, _, _, _, rfl, ht, Or.inl ⟨c, h⟩⟩, q⟩
  · obtain ⟨n, res, h, q⟩ := h2 c
    exact ⟨n + 1, res, ⟨_, _, hc, rfl, _, _, _, _, rfl, ht, Or.inr ⟨c, h⟩⟩, q⟩
theorem s_icmp_ne {cal : pm_C} {b : ByteArray} {o : Nat} {rt : Option FieldType} {fi : Bool} {pc : Nat} {ls st : List Value} {E : pm_E} {M : pm_M} {Q : Option Value → pm_E → pm_M → Prop} {x : Int32} {y : Int32} {off : Int} {tgt : Nat} (hc : decode b pc = .ok (.if_icmp .ne off, 3)) (ht : (pc : Int) + off = (tgt : Int)) (h1 : ¬ x = y → pm_wp cal b o rt fi tgt ls st E M Q) (h2 : ¬ (¬ x = y) → pm_wp cal b o rt fi (pc + 3) ls st E M Q) : pm_wp cal b o rt fi pc ls (.int y :: .int x :: st) E M Q := by
  by_cases c : ¬ x = y
  · obtain ⟨n, res, h, q⟩ := h1 c
    exact ⟨n + 1, res, ⟨_, _, hc, rfl, _, _, _, _, rfl, ht, Or.inl ⟨c, h⟩⟩, q⟩
  · obtain ⟨n, res, h, q⟩ := h2 c
    exact ⟨n + 1, res, ⟨_, _, hc, rfl, _, _, _, _, rfl, ht, Or.inr ⟨c, h⟩⟩, q⟩
theorem s_icmp_lt {cal : pm_C} {b : ByteArray} {o : Nat} {rt : Option FieldType} {fi : Bool} {pc : Nat} {ls st : List Value} {E : pm_E} {M : pm_M} {Q : Option Value → pm_E → pm_M → Prop} {x : Int32} {y : Int32} {off : Int} {tgt : Nat} (hc : decode b pc = .ok (.if_icmp .lt off, 3)) (ht : (pc : Int) + off = (tgt : Int)) (h1 : x < y → pm_wp cal b o rt fi tgt ls st E M Q) (h2 : ¬ (x < y) → pm_wp cal b o rt fi (pc + 3) ls st E M Q) : pm_wp cal b o rt fi pc ls (.int y :: .int x :: st) E M Q := by
  by_cases c : x < y
  · obtain ⟨n, res, h, q⟩ := h1 c
    exact ⟨n + 1, res, ⟨_, _, hc, rfl, _, _, _, _, rfl, ht, Or.inl ⟨c, h⟩⟩, q⟩
  · obtain ⟨n, res, h, q⟩ := h2 c
    exact ⟨n + 1, res, ⟨_, _, hc, rfl, _, _, _, _, rfl, ht, Or.inr ⟨c, h⟩⟩, q⟩
theorem s_icmp_ge {cal : pm_C} {b : ByteArray} {o : Nat} {rt : Option FieldType} {fi : Bool} {pc : Nat} {ls st : List Value} {E : pm_E} {M : pm_M} {Q : Option Value → pm_E → pm_M → Prop} {x : Int32} {y : Int32} {off : Int} {tgt : Nat} (hc : decode b pc = .ok (.if_icmp .ge off, 3)) (ht : (pc : Int) + off = (tgt : Int)) (h1 : y ≤ x → pm_wp cal b o rt fi tgt ls st E M Q) (h2 : ¬ (y ≤ x) → pm_wp cal b o rt fi (pc + 3) ls st E M Q) : pm_wp cal b o rt fi pc ls (.int y :: .int x :: st) E M Q := by
  by_cases c : y ≤ x
  · obtain ⟨n, res, h, q⟩ := h1 c
    exact ⟨n + 1, res, ⟨_, _, hc, rfl, _, _, _, _, rfl, ht, Or.inl ⟨c, h⟩⟩, q⟩
  · obtain ⟨n, res, h, q⟩ := h2 c
    exact ⟨n + 1, res, ⟨_, _, hc, rfl, _, _, _, _, rfl, ht, Or.inr ⟨c, h⟩⟩, q⟩
theorem s_icmp_gt {cal : pm_C} {b : ByteArray} {o : Nat} {rt : Option FieldType} {fi : Bool} {pc : Nat} {ls st : List Value} {E : pm_E} {M : pm_M} {Q : Option Value → pm_E → pm_M → Prop} {x : Int32} {y : Int32} {off : Int} {tgt : Nat} (hc : decode b pc = .ok (.if_icmp .gt off, 3)) (ht : (pc : Int) + off = (tgt : Int)) (h1 : y < x → pm_wp cal b o rt fi tgt ls st E M Q) (h2 : ¬ (y < x) → pm_wp cal b o rt fi (pc + 3) ls st E M Q) : pm_wp cal b o rt fi pc ls (.int y :: .int x :: st) E M Q := by
  by_cases c : y < x
  · obtain ⟨n, res, h, q⟩ := h1 c
    exact ⟨n + 1, res, ⟨_, _, hc, rfl, _, _, _, _, rfl, ht, Or.inl ⟨c, h⟩⟩, q⟩
  · obtain ⟨n, res, h, q⟩ := h2 c
    exact ⟨n + 1, res, ⟨_, _, hc, rfl, _, _, _, _, rfl, ht, Or.inr ⟨c, h⟩⟩, q⟩
theorem s_icmp_le {cal : pm_C} {b : ByteArray} {o : Nat} {rt : Option FieldType} {fi : Bool} {pc : Nat} {ls st : List Value} {E : pm_E} {M : pm_M} {Q : Option Value → pm_E → pm_M → Prop} {x : Int32} {y : Int32} {off : Int} {tgt : Nat} (hc : decode b pc = .ok (.if_icmp .le off, 3)) (ht : (pc : Int) + off = (tgt : Int)) (h1 : x ≤ y → pm_wp cal b o rt fi tgt ls st E M Q) (h2 : ¬ (x ≤ y) → pm_wp cal b o rt fi (pc + 3) ls st E M Q) : pm_wp cal b o rt fi pc ls (.int y :: .int x :: st) E M Q := by
  by_cases c : x ≤ y
  · obtain ⟨n, res, h, q⟩ := h1 c
    exact ⟨n + 1, res, ⟨_, _, hc, rfl, _, _, _, _, rfl, ht, Or.inl ⟨c, h⟩⟩, q⟩
  · obtain ⟨n, res, h, q⟩ := h2 c
    exact ⟨n + 1, res, ⟨_, _, hc, rfl, _, _, _, _, rfl, ht, Or.inr ⟨c, h⟩⟩, q⟩
theorem s_goto {cal : pm_C} {b : ByteArray} {o : Nat} {rt : Option FieldType} {fi : Bool} {pc : Nat} {ls st : List Value} {E : pm_E} {M : pm_M} {Q : Option Value → pm_E → pm_M → Prop} {off : Int} {tgt : Nat} (hc : decode b pc = .ok (.goto off, 3)) (ht : (pc : Int) + off = (tgt : Int)) (h : pm_wp cal b o rt fi tgt ls st E M Q) : pm_wp cal b o rt fi pc ls st E M Q := by
  obtain ⟨n, res, h, q⟩ := h
  exact ⟨n + 1, res, ⟨_, _, hc, rfl, _, ht, h⟩, q⟩
theorem s_ifnonnull {cal : pm_C} {b : ByteArray} {o : Nat} {rt : Option FieldType} {fi : Bool} {pc : Nat} {ls st : List Value} {E : pm_E} {M : pm_M} {Q : Option Value → pm_E → pm_M → Prop} {x : Nat} {off : Int} {tgt : Nat} (hc : decode b pc = .ok (.ifnonnull off, 3)) (ht : (pc : Int) + off = (tgt : Int)) (h : pm_wp cal b o rt fi tgt ls st E M Q) : pm_wp cal b o rt fi pc ls (.ref x :: st) E M Q := by
  obtain ⟨n, res, h, q⟩ := h
  exact ⟨n + 1, res, ⟨_, _, hc, rfl, _, _, _, rfl, ht, h⟩, q⟩
theorem s_tableswitch {cal : pm_C} {b : ByteArray} {o : Nat} {rt : Option FieldType} {fi : Bool} {pc : Nat} {ls st : List Value} {E : pm_E} {M : pm_M} {Q : Option Value → pm_E → pm_M → Prop} {x : Int32} {dflt lo hi : Int} {offs : Array Int} {len tgt : Nat} (hc : decode b pc = .ok (.tableswitch dflt lo hi offs, len)) (ht : (pc : Int) + (if x.toInt < lo ∨ hi < x.toInt then dflt else (offs[(x.toInt - lo).toNat]?).getD dflt) = (tgt : Int)) (hs : ¬ (x.toInt < lo ∨ hi < x.toInt) → (x.toInt - lo).toNat < offs.size) (h : pm_wp cal b o rt fi tgt ls st E M Q) : pm_wp cal b o rt fi pc ls (.int x :: st) E M Q := by
  obtain ⟨n, res, h, q⟩ := h
  exact ⟨n + 1, res, ⟨_, _, hc, _, _, _, rfl, ht, hs, h⟩, q⟩
theorem s_lookupswitch {cal : pm_C} {b : ByteArray} {o : Nat} {rt : Option FieldType} {fi : Bool} {pc : Nat} {ls st : List Value} {E : pm_E} {M : pm_M} {Q : Option Value → pm_E → pm_M → Prop} {x : Int32} {dflt : Int} {ps : Array (Int × Int)} {len tgt : Nat} (hc : decode b pc = .ok (.lookupswitch dflt ps, len)) (hp : (ps.toList.zip (ps.toList.drop 1)).all (fun (a, next) => a.1 < next.1) = true) (ht : (pc : Int) + Op.lookupswitch.offset ps.toList dflt x.toInt = (tgt : Int)) (h : pm_wp cal b o rt fi tgt ls st E M Q) : pm_wp cal b o rt fi pc ls (.int x :: st) E M Q := by
  obtain ⟨n, res, h, q⟩ := h
  exact ⟨n + 1, res, ⟨_, _, hc, _, _, _, rfl, hp, ht, h⟩, q⟩
theorem s_ldc {cal : pm_C} {b : ByteArray} {o : Nat} {rt : Option FieldType} {fi : Bool} {pc : Nat} {ls st : List Value} {E : pm_E} {M : pm_M} {Q : Option Value → pm_E → pm_M → Prop} {ix : Nat} {v : Value} (hc : decode b pc = .ok (.ldc ix, 2)) (hv : pm_kc o ix = some v) (h : pm_wp cal b o rt fi (pc + 2) ls (v :: st) E M Q) : pm_wp cal b o rt fi pc ls st E M Q := by
  obtain ⟨n, res, h, q⟩ := h
  exact ⟨n + 1, res, ⟨_, _, hc, rfl, _, hv, h⟩, q⟩
theorem s_ldc_w {cal : pm_C} {b : ByteArray} {o : Nat} {rt : Option FieldType} {fi : Bool} {pc : Nat} {ls st : List Value} {E : pm_E} {M : pm_M} {Q : Option Value → pm_E → pm_M → Prop} {ix : Nat} {v : Int32} (hc : decode b pc = .ok (.ldc_w ix, 3)) (hv : pm_kc o ix = some (.int v)) (h : pm_wp cal b o rt fi (pc + 3) ls (.int v :: st) E M Q) : pm_wp cal b o rt fi pc ls st E M Q := by
  obtain ⟨n, res, h, q⟩ := h
  exact ⟨n + 1, res, ⟨_, _, hc, rfl, _, hv, h⟩, q⟩
theorem s_ldc2_w {cal : pm_C} {b : ByteArray} {o : Nat} {rt : Option FieldType} {fi : Bool} {pc : Nat} {ls st : List Value} {E : pm_E} {M : pm_M} {Q : Option Value → pm_E → pm_M → Prop} {ix : Nat} {v : Int64} (hc : decode b pc = .ok (.ldc2_w ix, 3)) (hv : pm_kl o ix = some v) (h : pm_wp cal b o rt fi (pc + 3) ls (.long v :: st) E M Q) : pm_wp cal b o rt fi pc ls st E M Q := by
  obtain ⟨n, res, h, q⟩ := h
  exact ⟨n + 1, res, ⟨_, _, hc, rfl, _, hv, h⟩, q⟩
theorem s_getfield {cal : pm_C} {b : ByteArray} {o : Nat} {rt : Option FieldType} {fi : Bool} {pc : Nat} {ls st : List Value} {E : pm_E} {M : pm_M} {Q : Option Value → pm_E → pm_M → Prop} {ix ci kf kd a : Nat} {fin : Bool} (hc : decode b pc = .ok (.getfield ix, 3)) (hf : pm_fr o ix = some (ci, kf, kd, fin)) (h1 : a < E.1) (h2 : (E.2.2.1 a).1 = 10 + ci) {v : Value} (hv : pm_fv E M a kf kd = v) (h : pm_wp cal b o rt fi (pc + 3) ls (v :: st) E M Q) : pm_wp cal b o rt fi pc ls (.ref a :: st) E M Q := by
  obtain ⟨n, res, h, q⟩ := h
  subst hv
  exact ⟨n + 1, res, ⟨_, _, hc, rfl, _, _, _, _, _, _, hf, rfl, h1, h2, h⟩, q⟩
theorem s_putfieldI {cal : pm_C} {b : ByteArray} {o : Nat} {rt : Option FieldType} {fi : Bool} {pc : Nat} {ls st : List Value} {E : pm_E} {M : pm_M} {Q : Option Value → pm_E → pm_M → Prop} {ix ci kf kd a : Nat} {fin : Bool} {x : Int32} (hc : decode b pc = .ok (.putfield ix, 3)) (hf : pm_fr o ix = some (ci, kf, kd, fin)) (h1 : a < E.1) (h2 : (E.2.2.1 a).1 = 10 + ci) (h3 : fin = true → fi = true ∧ o = ci) (hk : kd = 0 ∨ (kd = 3 ∧ (x = 0 ∨ x = 1))) (h : pm_wp cal b o rt fi (pc + 3) ls st E (pm_si M a kf x) Q) : pm_wp cal b o rt fi pc ls (.int x :: .ref a :: st) E M Q := by
  obtain ⟨n, res, h, q⟩ := h
  exact ⟨n + 1, res, ⟨_, _, hc, rfl, _, _, _, _, _, _, hf, h1, h2, h3, Or.inl ⟨_, rfl, hk, h⟩⟩, q⟩
theorem s_putfieldL {cal : pm_C} {b : ByteArray} {o : Nat} {rt : Option FieldType} {fi : Bool} {pc : Nat} {ls st : List Value} {E : pm_E} {M : pm_M} {Q : Option Value → pm_E → pm_M → Prop} {ix ci kf kd a : Nat} {fin : Bool} {x : Int64} (hc : decode b pc = .ok (.putfield ix, 3)) (hf : pm_fr o ix = some (ci, kf, kd, fin)) (h1 : a < E.1) (h2 : (E.2.2.1 a).1 = 10 + ci) (h3 : fin = true → fi = true ∧ o = ci) (hk : kd = 1) (h : pm_wp cal b o rt fi (pc + 3) ls st E (pm_sj M a kf x) Q) : pm_wp cal b o rt fi pc ls (.long x :: .ref a :: st) E M Q := by
  obtain ⟨n, res, h, q⟩ := h
  exact ⟨n + 1, res, ⟨_, _, hc, rfl, _, _, _, _, _, _, hf, h1, h2, h3, Or.inr (Or.inl ⟨_, rfl, hk, h⟩)⟩, q⟩
theorem s_putfieldA {cal : pm_C} {b : ByteArray} {o : Nat} {rt : Option FieldType} {fi : Bool} {pc : Nat} {ls st : List Value} {E : pm_E} {M : pm_M} {Q : Option Value → pm_E → pm_M → Prop} {ix ci kf kd a : Nat} {fin : Bool} {x : Nat} (hc : decode b pc = .ok (.putfield ix, 3)) (hf : pm_fr o ix = some (ci, kf, kd, fin)) (h1 : a < E.1) (h2 : (E.2.2.1 a).1 = 10 + ci) (h3 : fin = true → fi = true ∧ o = ci) (hk : kd = 2) (h : pm_wp cal b o rt fi (pc + 3) ls st (pm_sp E a kf (some x)) M Q) : pm_wp cal b o rt fi pc ls (.ref x :: .ref a :: st) E M Q := by
  obtain ⟨n, res, h, q⟩ := h
  exact ⟨n + 1, res, ⟨_, _, hc, rfl, _, _, _, _, _, _, hf, h1, h2, h3, Or.inr (Or.inr ⟨_, rfl, hk, h⟩)⟩, q⟩
theorem s_arraylength {cal : pm_C} {b : ByteArray} {o : Nat} {rt : Option FieldType} {fi : Bool} {pc : Nat} {ls st : List Value} {E : pm_E} {M : pm_M} {Q : Option Value → pm_E → pm_M → Prop}  {a : Nat} (hc : decode b pc = .ok (.arraylength, 1)) (ha : (a < E.1 ∨ a = 4000) ∧ (E.2.2.1 a).1 < 6) (h : pm_wp cal b o rt fi (pc + 1) ls (.int (Int32.ofNat (pm_al E a)) :: st) E M Q) : pm_wp cal b o rt fi pc ls (.ref a :: st) E M Q := by
  obtain ⟨n, res, h, q⟩ := h
  exact ⟨n + 1, res, ⟨_, _, hc, rfl, _, _, rfl, ha, h⟩, q⟩
theorem s_iaload {cal : pm_C} {b : ByteArray} {o : Nat} {rt : Option FieldType} {fi : Bool} {pc : Nat} {ls st : List Value} {E : pm_E} {M : pm_M} {Q : Option Value → pm_E → pm_M → Prop}  {i : Int32} {a : Nat} (hc : decode b pc = .ok (.iaload, 1)) (ha : pm_ok E a 0) (hi : vp_in i (pm_al E a)) (h : pm_wp cal b o rt fi (pc + 1) ls (.int (M.1 a i.toNatClampNeg) :: st) E M Q) : pm_wp cal b o rt fi pc ls (.int i :: .ref a :: st) E M Q := by
  obtain ⟨n, res, h, q⟩ := h
  exact ⟨n + 1, res, ⟨_, _, hc, rfl, _, _, _, rfl, ha, hi, h⟩, q⟩
theorem s_baload {cal : pm_C} {b : ByteArray} {o : Nat} {rt : Option FieldType} {fi : Bool} {pc : Nat} {ls st : List Value} {E : pm_E} {M : pm_M} {Q : Option Value → pm_E → pm_M → Prop}  {i : Int32} {a : Nat} (hc : decode b pc = .ok (.baload, 1)) (ha : a < E.1 ∧ (E.2.2.1 a).1 = 2) (hi : vp_in i (pm_al E a)) (h : pm_wp cal b o rt fi (pc + 1) ls (.int (M.1 a i.toNatClampNeg) :: st) E M Q) : pm_wp cal b o rt fi pc ls (.int i :: .ref a :: st) E M Q := by
  obtain ⟨n, res, h, q⟩ := h
  exact ⟨n + 1, res, ⟨_, _, hc, rfl, _, _, _, rfl, ha, hi, h⟩, q⟩
theorem s_laload {cal : pm_C} {b : ByteArray} {o : Nat} {rt : Option FieldType} {fi : Bool} {pc : Nat} {ls st : List Value} {E : pm_E} {M : pm_M} {Q : Option Value → pm_E → pm_M → Prop}  {i : Int32} {a : Nat} (hc : decode b pc = .ok (.laload, 1)) (ha : a < E.1 ∧ (E.2.2.1 a).1 = 1) (hi : vp_in i (pm_al E a)) (h : pm_wp cal b o rt fi (pc + 1) ls (.long (M.2 a i.toNatClampNeg) :: st) E M Q) : pm_wp cal b o rt fi pc ls (.int i :: .ref a :: st) E M Q := by
  obtain ⟨n, res, h, q⟩ := h
  exact ⟨n + 1, res, ⟨_, _, hc, rfl, _, _, _, rfl, ha, hi, h⟩, q⟩
theorem s_iastore {cal : pm_C} {b : ByteArray} {o : Nat} {rt : Option FieldType} {fi : Bool} {pc : Nat} {ls st : List Value} {E : pm_E} {M : pm_M} {Q : Option Value → pm_E → pm_M → Prop}  {x : Int32} {i : Int32} {a : Nat} (hc : decode b pc = .ok (.iastore, 1)) (ha : a < E.1 ∧ (E.2.2.1 a).1 = 0) (hi : vp_in i (pm_al E a)) (h : pm_wp cal b o rt fi (pc + 1) ls (st) E (pm_si M a i.toNatClampNeg x) Q) : pm_wp cal b o rt fi pc ls (.int x :: .int i :: .ref a :: st) E M Q := by
  obtain ⟨n, res, h, q⟩ := h
  exact ⟨n + 1, res, ⟨_, _, hc, rfl, _, _, _, _, rfl, ha, hi, h⟩, q⟩
theorem s_bastore {cal : pm_C} {b : ByteArray} {o : Nat} {rt : Option FieldType} {fi : Bool} {pc : Nat} {ls st : List Value} {E : pm_E} {M : pm_M} {Q : Option Value → pm_E → pm_M → Prop}  {x : Int32} {i : Int32} {a : Nat} (hc : decode b pc = .ok (.bastore, 1)) (ha : a < E.1 ∧ (E.2.2.1 a).1 = 2) (hi : vp_in i (pm_al E a)) (hx : x = 0 ∨ x = 1) (h : pm_wp cal b o rt fi (pc + 1) ls (st) E (pm_si M a i.toNatClampNeg x) Q) : pm_wp cal b o rt fi pc ls (.int x :: .int i :: .ref a :: st) E M Q := by
  obtain ⟨n, res, h, q⟩ := h
  exact ⟨n + 1, res, ⟨_, _, hc, rfl, _, _, _, _, rfl, ha, hi, hx, h⟩, q⟩
theorem s_lastore {cal : pm_C} {b : ByteArray} {o : Nat} {rt : Option FieldType} {fi : Bool} {pc : Nat} {ls st : List Value} {E : pm_E} {M : pm_M} {Q : Option Value → pm_E → pm_M → Prop}  {x : Int64} {i : Int32} {a : Nat} (hc : decode b pc = .ok (.lastore, 1)) (ha : a < E.1 ∧ (E.2.2.1 a).1 = 1) (hi : vp_in i (pm_al E a)) (h : pm_wp cal b o rt fi (pc + 1) ls (st) E (pm_sj M a i.toNatClampNeg x) Q) : pm_wp cal b o rt fi pc ls (.long x :: .int i :: .ref a :: st) E M Q := by
  obtain ⟨n, res, h, q⟩ := h
  exact ⟨n + 1, res, ⟨_, _, hc, rfl, _, _, _, _, rfl, ha, hi, h⟩, q⟩
theorem s_aaload {cal : pm_C} {b : ByteArray} {o : Nat} {rt : Option FieldType} {fi : Bool} {pc : Nat} {ls st : List Value} {E : pm_E} {M : pm_M} {Q : Option Value → pm_E → pm_M → Prop}  {i : Int32} {a : Nat} (hc : decode b pc = .ok (.aaload, 1)) (ha : a < E.1 ∧ 3 ≤ (E.2.2.1 a).1 ∧ (E.2.2.1 a).1 < 6) (hi : vp_in i (pm_al E a)) (h : pm_wp cal b o rt fi (pc + 1) ls (pm_rf (E.2.2.2 a i.toNatClampNeg) :: st) E M Q) : pm_wp cal b o rt fi pc ls (.int i :: .ref a :: st) E M Q := by
  obtain ⟨n, res, h, q⟩ := h
  exact ⟨n + 1, res, ⟨_, _, hc, rfl, _, _, _, rfl, ha, hi, h⟩, q⟩
theorem s_aastore {cal : pm_C} {b : ByteArray} {o : Nat} {rt : Option FieldType} {fi : Bool} {pc : Nat} {ls st : List Value} {E : pm_E} {M : pm_M} {Q : Option Value → pm_E → pm_M → Prop}  {x : Nat} {i : Int32} {a : Nat} (hc : decode b pc = .ok (.aastore, 1)) (ha : a < E.1 ∧ 3 ≤ (E.2.2.1 a).1 ∧ (E.2.2.1 a).1 < 6) (hi : vp_in i (pm_al E a)) (hx : x < E.1 ∧ (E.2.2.1 x).1 = 10 + pm_ae (E.2.2.1 a).1) (h : pm_wp cal b o rt fi (pc + 1) ls (st) (pm_sp E a i.toNatClampNeg (some x)) M Q) : pm_wp cal b o rt fi pc ls (.ref x :: .int i :: .ref a :: st) E M Q := by
  obtain ⟨n, res, h, q⟩ := h
  exact ⟨n + 1, res, ⟨_, _, hc, rfl, _, _, _, _, rfl, ha, hi, hx, h⟩, q⟩
theorem s_new {cal : pm_C} {b : ByteArray} {o : Nat} {rt : Option FieldType} {fi : Bool} {pc : Nat} {ls st : List Value} {E : pm_E} {M : pm_M} {Q : Option Value → pm_E → pm_M → Prop} {ix ci : Nat} (hc : decode b pc = .ok (.new ix, 3)) (hn : pm_cn o ix = some ci) (hs : E.1 < 4000) (h : pm_wp cal b o rt fi (pc + 3) ls (.ref E.1 :: st) (pm_ne E (10 + ci) (pm_nf ci) 0) (pm_nm E M) Q) : pm_wp cal b o rt fi pc ls st E M Q := by
  obtain ⟨n, res, h, q⟩ := h
  exact ⟨n + 1, res, ⟨_, _, hc, rfl, _, hn, hs, h⟩, q⟩
theorem s_newarray {cal : pm_C} {b : ByteArray} {o : Nat} {rt : Option FieldType} {fi : Bool} {pc : Nat} {ls st : List Value} {E : pm_E} {M : pm_M} {Q : Option Value → pm_E → pm_M → Prop} {ty : ArrayType} {n : Int32} {kd : Nat} (hc : decode b pc = .ok (.newarray ty, 2)) (hk : pm_at ty = some kd) (hn : ¬ n < 0) (hm : n.toNatClampNeg ≤ 100000) (hs : E.1 < 4000) (h : pm_wp cal b o rt fi (pc + 2) ls (.ref E.1 :: st) (pm_ne E kd n.toNatClampNeg n.toNatClampNeg) (pm_nm E M) Q) : pm_wp cal b o rt fi pc ls (.int n :: st) E M Q := by
  obtain ⟨n, res, h, q⟩ := h
  exact ⟨n + 1, res, ⟨_, _, hc, rfl, _, _, _, rfl, hk, hn, hm, hs, h⟩, q⟩
theorem s_anewarray {cal : pm_C} {b : ByteArray} {o : Nat} {rt : Option FieldType} {fi : Bool} {pc : Nat} {ls st : List Value} {E : pm_E} {M : pm_M} {Q : Option Value → pm_E → pm_M → Prop} {ix : Nat} {n : Int32} {kd : Nat} (hc : decode b pc = .ok (.anewarray ix, 3)) (hk : pm_an o ix = some kd) (hn : ¬ n < 0) (hm : n.toNatClampNeg ≤ 100000) (hs : E.1 < 4000) (h : pm_wp cal b o rt fi (pc + 3) ls (.ref E.1 :: st) (pm_ne E kd n.toNatClampNeg n.toNatClampNeg) (pm_nm E M) Q) : pm_wp cal b o rt fi pc ls (.int n :: st) E M Q := by
  obtain ⟨n, res, h, q⟩ := h
  exact ⟨n + 1, res, ⟨_, _, hc, rfl, _, _, _, rfl, hk, hn, hm, hs, h⟩, q⟩
theorem s_callvI {cal : pm_C} {b : ByteArray} {o : Nat} {rt : Option FieldType} {fi : Bool} {pc : Nat} {ls st : List Value} {E : pm_E} {M : pm_M} {Q : Option Value → pm_E → pm_M → Prop} {ix y : Nat} {a : Nat} (As : List Value) {st0 : List Value} (hst : st0 = As.reverse ++ .ref a :: st) (hc : decode b pc = .ok (.invokevirtual ix, 3)) (ht : pm_mv o ix = some y) (hl : As.length = pm_np y) (hs : pm_cat st ≤ 8) (h1 : a < E.1) (h2 : (E.2.2.1 a).1 = 10 + pm_oc y) (h : pm_callI cal y (.ref a :: As) E M (fun v E1 M1 => pm_wp cal b o rt fi (pc + 3) ls (.int v :: st) E1 M1 Q)) : pm_wp cal b o rt fi pc ls st0 E M Q := by
  obtain ⟨⟨r, E1, M1⟩, hcal, v, hr, n, res, h, q⟩ := h
  subst hst
  dsimp only at hr h q
  subst hr
  exact ⟨n + 1, res, ⟨_, _, hc, rfl, Or.inl ⟨_, _, _, _, _, _, _, ht, rfl, hl, hs, h1, h2, hcal, h⟩⟩, q⟩
theorem s_callvL {cal : pm_C} {b : ByteArray} {o : Nat} {rt : Option FieldType} {fi : Bool} {pc : Nat} {ls st : List Value} {E : pm_E} {M : pm_M} {Q : Option Value → pm_E → pm_M → Prop} {ix y : Nat} {a : Nat} (As : List Value) {st0 : List Value} (hst : st0 = As.reverse ++ .ref a :: st) (hc : decode b pc = .ok (.invokevirtual ix, 3)) (ht : pm_mv o ix = some y) (hl : As.length = pm_np y) (hs : pm_cat st ≤ 8) (h1 : a < E.1) (h2 : (E.2.2.1 a).1 = 10 + pm_oc y) (h : pm_callL cal y (.ref a :: As) E M (fun v E1 M1 => pm_wp cal b o rt fi (pc + 3) ls (.long v :: st) E1 M1 Q)) : pm_wp cal b o rt fi pc ls st0 E M Q := by
  obtain ⟨⟨r, E1, M1⟩, hcal, v, hr, n, res, h, q⟩ := h
  subst hst
  dsimp only at hr h q
  subst hr
  exact ⟨n + 1, res, ⟨_, _, hc, rfl, Or.inl ⟨_, _, _, _, _, _, _, ht, rfl, hl, hs, h1, h2, hcal, h⟩⟩, q⟩
theorem s_callvV {cal : pm_C} {b : ByteArray} {o : Nat} {rt : Option FieldType} {fi : Bool} {pc : Nat} {ls st : List Value} {E : pm_E} {M : pm_M} {Q : Option Value → pm_E → pm_M → Prop} {ix y : Nat} {a : Nat} (As : List Value) {st0 : List Value} (hst : st0 = As.reverse ++ .ref a :: st) (hc : decode b pc = .ok (.invokevirtual ix, 3)) (ht : pm_mv o ix = some y) (hl : As.length = pm_np y) (hs : pm_cat st ≤ 8) (h1 : a < E.1) (h2 : (E.2.2.1 a).1 = 10 + pm_oc y) (h : pm_callV cal y (.ref a :: As) E M (fun E1 M1 => pm_wp cal b o rt fi (pc + 3) ls st E1 M1 Q)) : pm_wp cal b o rt fi pc ls st0 E M Q := by
  obtain ⟨⟨r, E1, M1⟩, hcal, hr, n, res, h, q⟩ := h
  subst hst
  dsimp only at hr h q
  subst hr
  exact ⟨n + 1, res, ⟨_, _, hc, rfl, Or.inl ⟨_, _, _, _, _, _, _, ht, rfl, hl, hs, h1, h2, hcal, h⟩⟩, q⟩
theorem s_strlen {cal : pm_C} {b : ByteArray} {o : Nat} {rt : Option FieldType} {fi : Bool} {pc : Nat} {ls st : List Value} {E : pm_E} {M : pm_M} {Q : Option Value → pm_E → pm_M → Prop} {ix j : Nat} (hc : decode b pc = .ok (.invokevirtual ix, 3)) (ht : pm_sv o ix = some 0) (hj : j < 3) (hs : pm_cat st ≤ 8) (h : pm_wp cal b o rt fi (pc + 3) ls (.int (Int32.ofNat (pm_sl j)) :: st) E M Q) : pm_wp cal b o rt fi pc ls (.ref (4001 + j) :: st) E M Q := by
  obtain ⟨n, res, h, q⟩ := h
  exact ⟨n + 1, res, ⟨_, _, hc, rfl, Or.inr (Or.inl ⟨_, _, ht, hj, rfl, hs, h⟩)⟩, q⟩
theorem s_charAt {cal : pm_C} {b : ByteArray} {o : Nat} {rt : Option FieldType} {fi : Bool} {pc : Nat} {ls st : List Value} {E : pm_E} {M : pm_M} {Q : Option Value → pm_E → pm_M → Prop} {ix j : Nat} {i : Int32} (hc : decode b pc = .ok (.invokevirtual ix, 3)) (ht : pm_sv o ix = some 1) (hj : j < 3) (hi : vp_in i (pm_sl j)) (hs : pm_cat st ≤ 8) (h : pm_wp cal b o rt fi (pc + 3) ls (.int (pm_sc j i.toNatClampNeg) :: st) E M Q) : pm_wp cal b o rt fi pc ls (.int i :: .ref (4001 + j) :: st) E M Q := by
  obtain ⟨n, res, h, q⟩ := h
  exact ⟨n + 1, res, ⟨_, _, hc, rfl, Or.inr (Or.inr ⟨_, _, _, ht, hj, rfl, hi, hs, h⟩)⟩, q⟩
theorem s_callsI {cal : pm_C} {b : ByteArray} {o : Nat} {rt : Option FieldType} {fi : Bool} {pc : Nat} {ls st : List Value} {E : pm_E} {M : pm_M} {Q : Option Value → pm_E → pm_M → Prop} {ix y : Nat} (As : List Value) {st0 : List Value} (hst : st0 = As.reverse ++ st) (hc : decode b pc = .ok (.invokestatic ix, 3)) (ht : pm_ms o ix = some y) (hl : As.length = pm_np y) (hs : pm_cat st ≤ 8) (h : pm_callI cal y (As) E M (fun v E1 M1 => pm_wp cal b o rt fi (pc + 3) ls (.int v :: st) E1 M1 Q)) : pm_wp cal b o rt fi pc ls st0 E M Q := by
  obtain ⟨⟨r, E1, M1⟩, hcal, v, hr, n, res, h, q⟩ := h
  subst hst
  dsimp only at hr h q
  subst hr
  exact ⟨n + 1, res, ⟨_, _, hc, rfl, Or.inl ⟨_, _, _, _, _, _, ht, rfl, hl, hs, hcal, h⟩⟩, q⟩
theorem s_callsL {cal : pm_C} {b : ByteArray} {o : Nat} {rt : Option FieldType} {fi : Bool} {pc : Nat} {ls st : List Value} {E : pm_E} {M : pm_M} {Q : Option Value → pm_E → pm_M → Prop} {ix y : Nat} (As : List Value) {st0 : List Value} (hst : st0 = As.reverse ++ st) (hc : decode b pc = .ok (.invokestatic ix, 3)) (ht : pm_ms o ix = some y) (hl : As.length = pm_np y) (hs : pm_cat st ≤ 8) (h : pm_callL cal y (As) E M (fun v E1 M1 => pm_wp cal b o rt fi (pc + 3) ls (.long v :: st) E1 M1 Q)) : pm_wp cal b o rt fi pc ls st0 E M Q := by
  obtain ⟨⟨r, E1, M1⟩, hcal, v, hr, n, res, h, q⟩ := h
  subst hst
  dsimp only at hr h q
  subst hr
  exact ⟨n + 1, res, ⟨_, _, hc, rfl, Or.inl ⟨_, _, _, _, _, _, ht, rfl, hl, hs, hcal, h⟩⟩, q⟩
theorem s_callsV {cal : pm_C} {b : ByteArray} {o : Nat} {rt : Option FieldType} {fi : Bool} {pc : Nat} {ls st : List Value} {E : pm_E} {M : pm_M} {Q : Option Value → pm_E → pm_M → Prop} {ix y : Nat} (As : List Value) {st0 : List Value} (hst : st0 = As.reverse ++ st) (hc : decode b pc = .ok (.invokestatic ix, 3)) (ht : pm_ms o ix = some y) (hl : As.length = pm_np y) (hs : pm_cat st ≤ 8) (h : pm_callV cal y (As) E M (fun E1 M1 => pm_wp cal b o rt fi (pc + 3) ls st E1 M1 Q)) : pm_wp cal b o rt fi pc ls st0 E M Q := by
  obtain ⟨⟨r, E1, M1⟩, hcal, hr, n, res, h, q⟩ := h
  subst hst
  dsimp only at hr h q
  subst hr
  exact ⟨n + 1, res, ⟨_, _, hc, rfl, Or.inl ⟨_, _, _, _, _, _, ht, rfl, hl, hs, hcal, h⟩⟩, q⟩
theorem s_arraycopy {cal : pm_C} {b : ByteArray} {o : Nat} {rt : Option FieldType} {fi : Bool} {pc : Nat} {ls st : List Value} {E : pm_E} {M : pm_M} {Q : Option Value → pm_E → pm_M → Prop} {ix a c : Nat} {sp dp m : Int32} (hc : decode b pc = .ok (.invokestatic ix, 3)) (ht : pm_ac o ix = true) (h1 : a < E.1) (h2 : c < E.1) (h3 : (E.2.2.1 a).1 = 0) (h4 : (E.2.2.1 c).1 = 0) (h5 : ¬ sp < 0) (h6 : ¬ dp < 0) (h7 : ¬ m < 0) (h8 : sp.toNatClampNeg + m.toNatClampNeg ≤ pm_al E a) (h9 : dp.toNatClampNeg + m.toNatClampNeg ≤ pm_al E c) (hs : pm_cat st ≤ 8) (h : pm_wp cal b o rt fi (pc + 3) ls st E (pm_ri M c (va_cpy (M.1 a) (M.1 c) sp.toNatClampNeg dp.toNatClampNeg m.toNatClampNeg)) Q) : pm_wp cal b o rt fi pc ls (.int m :: .int dp :: .ref c :: .int sp :: .ref a :: st) E M Q := by
  obtain ⟨n, res, h, q⟩ := h
  exact ⟨n + 1, res, ⟨_, _, hc, rfl, Or.inr ⟨_, _, _, _, _, _, ht, rfl, h1, h2, h3, h4, h5, h6, h7, h8, h9, hs, h⟩⟩, q⟩
theorem s_calliV {cal : pm_C} {b : ByteArray} {o : Nat} {rt : Option FieldType} {fi : Bool} {pc : Nat} {ls st : List Value} {E : pm_E} {M : pm_M} {Q : Option Value → pm_E → pm_M → Prop} {ix y : Nat} {a : Nat} (As : List Value) {st0 : List Value} (hst : st0 = As.reverse ++ .ref a :: st) (hc : decode b pc = .ok (.invokespecial ix, 3)) (ht : pm_mi o ix = some y) (hl : As.length = pm_np y) (hs : pm_cat st ≤ 8) (h : pm_callV cal y (.ref a :: As) E M (fun E1 M1 => pm_wp cal b o rt fi (pc + 3) ls st E1 M1 Q)) : pm_wp cal b o rt fi pc ls st0 E M Q := by
  obtain ⟨⟨r, E1, M1⟩, hcal, hr, n, res, h, q⟩ := h
  subst hst
  dsimp only at hr h q
  subst hr
  exact ⟨n + 1, res, ⟨_, _, hc, rfl, Or.inl ⟨_, _, _, _, _, _, _, ht, rfl, hl, hs, hcal, h⟩⟩, q⟩
theorem s_objinit {cal : pm_C} {b : ByteArray} {o : Nat} {rt : Option FieldType} {fi : Bool} {pc : Nat} {ls st : List Value} {E : pm_E} {M : pm_M} {Q : Option Value → pm_E → pm_M → Prop} {ix a : Nat} (hc : decode b pc = .ok (.invokespecial ix, 3)) (ht : pm_oi o ix = true) (hs : pm_cat st ≤ 8) (h : pm_wp cal b o rt fi (pc + 3) ls st E M Q) : pm_wp cal b o rt fi pc ls (.ref a :: st) E M Q := by
  obtain ⟨n, res, h, q⟩ := h
  exact ⟨n + 1, res, ⟨_, _, hc, rfl, Or.inr ⟨_, _, ht, rfl, hs, h⟩⟩, q⟩
theorem s_ireturn {cal : pm_C} {b : ByteArray} {o : Nat} {rt : Option FieldType} {fi : Bool} {pc : Nat} {ls st : List Value} {E : pm_E} {M : pm_M} {Q : Option Value → pm_E → pm_M → Prop} {v : Int32} (hc : decode b pc = .ok (.ireturn, 1)) (hr : rt = some .int ∨ (rt = some .boolean ∧ (v = 0 ∨ v = 1))) (h : Q (some (.int v)) E M) : pm_wp cal b o rt fi pc ls [.int v] E M Q :=
  ⟨1, (some (.int v), E, M), ⟨_, _, hc, rfl, _, rfl, hr, rfl⟩, h⟩
theorem s_lreturn {cal : pm_C} {b : ByteArray} {o : Nat} {rt : Option FieldType} {fi : Bool} {pc : Nat} {ls st : List Value} {E : pm_E} {M : pm_M} {Q : Option Value → pm_E → pm_M → Prop} {v : Int64} (hc : decode b pc = .ok (.lreturn, 1)) (hr : rt = some .long) (h : Q (some (.long v)) E M) : pm_wp cal b o rt fi pc ls [.long v] E M Q :=
  ⟨1, (some (.long v), E, M), ⟨_, _, hc, rfl, _, rfl, hr, rfl⟩, h⟩
theorem s_return {cal : pm_C} {b : ByteArray} {o : Nat} {rt : Option FieldType} {fi : Bool} {pc : Nat} {ls st : List Value} {E : pm_E} {M : pm_M} {Q : Option Value → pm_E → pm_M → Prop} (hc : decode b pc = .ok (.return_, 1)) (hr : rt = none) (h : Q none E M) : pm_wp cal b o rt fi pc ls [] E M Q :=
  ⟨1, (none, E, M), ⟨_, _, hc, rfl, rfl, hr, rfl⟩, h⟩
