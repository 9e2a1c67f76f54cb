/-! THE POOLS: fields and constants by class and number; the tables have them -/
def mm_look {α : Type} : List (Nat × α) → Nat → Option α
  | [], _ => none
  | (a, v) :: r, n => bif a == n then some v else mm_look r n
theorem mm_look_mem {α : Type} : ∀ (l : List (Nat × α)) (n : Nat) (v : α), mm_look l n = some v → (n, v) ∈ l
  | [], n, v, h => by cases h
  | (a, x) :: r, n, v, h => by
    simp only [mm_look] at h
    cases q : a == n with
    | true => rw [q] at h; cases h; rw [beq_iff_eq] at q; subst q; exact List.mem_cons_self
    | false => rw [q] at h; exact List.mem_cons_of_mem _ (mm_look_mem r n v h)
/-- words that stay true as the tables grow warm -/
def mm_wk (w : Cond) : Bool := goodWord w || (match w with | .methodLinkNest _ _ _ _ => true | .stringRef _ _ _ => true | _ => false)
def mm_tbl : List Cond := lw_tbl.filter mm_wk
theorem mm_tbF {w : Cond} (h : w ∈ lw_tbl) (hk : mm_wk w = true := by first | rfl | (unfold u_lay; split <;> rfl)) : w ∈ mm_tbl := List.mem_filter.mpr ⟨h, hk⟩
theorem mm_tb {w : Cond} {j : Nat} (h : tables_1[j]? = some w) (hk : mm_wk w = true := by first | rfl | (unfold u_lay; split <;> rfl)) : w ∈ mm_tbl := mm_tbF (List.mem_append_right _ (List.mem_of_getElem? h)) hk
def mm_fk0 : List (Nat × Nat × Nat × Nat) := [(115, 1, 0, 41), (90, 1, 1, 46), (171, 1, 2, 56), (121, 2, 0, 89), (118, 2, 1, 97), (174, 2, 2, 100), (177, 2, 3, 102), (180, 2, 4, 104), (183, 2, 5, 106), (186, 2, 6, 110), (230, 3, 0, 134), (231, 3, 1, 137), (226, 3, 2, 140), (272, 4, 0, 166), (12, 0, 0, 489), (19, 0, 1, 490), (26, 0, 2, 491), (33, 0, 3, 492), (47, 0, 4, 493), (56, 0, 5, 494), (63, 0, 6, 495), (72, 0, 7, 496), (79, 0, 8, 497), (83, 0, 9, 498), (87, 0, 10, 499)]
def mm_ci0 : List (Nat × Int32 × Nat) := [(138, 32768, 754), (284, 65521, 866), (285, 65536, 867), (282, (-306674912), 883), (286, 374761393, 951), (287, 606290984, 952), (288, (-2048144777), 953), (289, 1640531535, 954), (298, (-1640531535), 961), (299, (-1028477379), 962), (300, 668265263, 963), (283, 79764919, 1050)]
def mm_cj0 : List (Nat × Int64 × Nat) := []
def mm_fk1 : List (Nat × Nat × Nat × Nat) := [(9, 1, 0, 38), (15, 1, 1, 48), (19, 1, 2, 54), (22, 1, 3, 58), (25, 1, 4, 60), (29, 1, 5, 62), (32, 1, 6, 63)]
def mm_ci1 : List (Nat × Int32 × Nat) := []
def mm_cj1 : List (Nat × Int64 × Nat) := []
def mm_fk2 : List (Nat × Nat × Nat × Nat) := [(9, 2, 0, 86), (15, 2, 1, 92), (19, 2, 2, 99), (22, 2, 3, 101), (25, 2, 4, 103), (28, 2, 5, 105), (31, 2, 6, 107)]
def mm_ci2 : List (Nat × Int32 × Nat) := []
def mm_cj2 : List (Nat × Int64 × Nat) := []
def mm_fk3 : List (Nat × Nat × Nat × Nat) := [(9, 3, 0, 133), (26, 3, 1, 136), (15, 3, 2, 139), (19, 3, 3, 141), (30, 3, 4, 144), (33, 3, 5, 145)]
def mm_ci3 : List (Nat × Int32 × Nat) := []
def mm_cj3 : List (Nat × Int64 × Nat) := [(39, 255, 1228)]
def mm_fk4 : List (Nat × Nat × Nat × Nat) := [(9, 4, 0, 165), (15, 4, 1, 168), (18, 4, 2, 169), (21, 4, 3, 170), (24, 4, 4, 171), (33, 4, 5, 172), (44, 4, 6, 173)]
def mm_ci4 : List (Nat × Int32 × Nat) := []
def mm_cj4 : List (Nat × Int64 × Nat) := []
def mm_fk5 : List (Nat × Nat × Nat × Nat) := [(22, 1, 0, 39), (28, 1, 1, 47), (42, 5, 0, 195), (45, 5, 1, 198), (11, 5, 2, 201), (15, 5, 3, 202), (27, 5, 4, 203), (18, 5, 5, 204), (32, 5, 6, 205), (33, 5, 7, 206)]
def mm_ci5 : List (Nat × Int32 × Nat) := []
def mm_cj5 : List (Nat × Int64 × Nat) := []
def mm_fk6 : List (Nat × Nat × Nat × Nat) := [(94, 1, 0, 40), (191, 1, 1, 53), (95, 1, 2, 55), (72, 2, 0, 87), (77, 2, 1, 93), (110, 2, 6, 109), (208, 5, 0, 197), (220, 5, 1, 200), (134, 7, 0, 238), (39, 6, 0, 259), (43, 6, 1, 260), (47, 6, 2, 261), (51, 6, 3, 262), (16, 6, 4, 263), (20, 6, 5, 264), (27, 6, 6, 265), (30, 6, 7, 266), (150, 6, 8, 267), (153, 6, 9, 268), (33, 6, 10, 269), (36, 6, 11, 270)]
def mm_ci6 : List (Nat × Int32 × Nat) := [(103, 1000000, 759), (101, 65535, 784), (102, 32768, 884)]
def mm_cj6 : List (Nat × Int64 × Nat) := []
def mm_fk7 : List (Nat × Nat × Nat × Nat) := [(16, 7, 0, 236), (19, 7, 1, 239), (9, 7, 2, 240), (13, 7, 3, 241), (34, 7, 4, 242), (38, 7, 5, 243)]
def mm_ci7 : List (Nat × Int32 × Nat) := [(41, 1048576, 801)]
def mm_cj7 : List (Nat × Int64 × Nat) := []
def mm_fk8 : List (Nat × Nat × Nat × Nat) := [(132, 1, 0, 43), (131, 1, 1, 50), (80, 1, 4, 61), (104, 2, 1, 98), (121, 3, 3, 142), (27, 8, 0, 302), (31, 8, 1, 303), (35, 8, 2, 304), (11, 8, 3, 305), (15, 8, 4, 306), (18, 8, 5, 307), (21, 8, 6, 308), (24, 8, 7, 309), (39, 8, 8, 310), (53, 8, 9, 311), (56, 8, 10, 312), (43, 8, 11, 313), (59, 8, 12, 314), (98, 8, 13, 315), (101, 8, 14, 316)]
def mm_ci8 : List (Nat × Int32 × Nat) := [(83, 1000000, 904)]
def mm_cj8 : List (Nat × Int64 × Nat) := []
def mm_fk9 : List (Nat × Nat × Nat × Nat) := [(95, 1, 0, 42), (120, 1, 1, 49), (88, 1, 2, 57), (80, 2, 0, 90), (56, 2, 1, 96), (98, 2, 6, 111), (166, 3, 0, 135), (170, 3, 1, 138), (141, 5, 0, 196), (144, 5, 1, 199), (9, 9, 0, 354), (15, 9, 1, 355), (19, 9, 2, 356), (23, 9, 3, 357), (77, 9, 4, 358), (91, 9, 5, 359)]
def mm_ci9 : List (Nat × Int32 × Nat) := [(27, 1000000, 722), (147, 65535, 1267)]
def mm_cj9 : List (Nat × Int64 × Nat) := [(96, 2147483648, 968), (118, 4294967295, 986), (113, 16384, 987)]
def mm_fk10 : List (Nat × Nat × Nat × Nat) := [(168, 1, 0, 44), (167, 1, 1, 51), (65, 1, 4, 59), (96, 2, 0, 88), (87, 2, 1, 94), (78, 2, 6, 108), (163, 3, 3, 143), (202, 4, 0, 167), (135, 7, 0, 237), (36, 10, 0, 382), (40, 10, 1, 383), (44, 10, 2, 384), (48, 10, 3, 385), (13, 10, 4, 386), (17, 10, 5, 387), (21, 10, 6, 388), (128, 10, 7, 389), (24, 10, 8, 390), (125, 10, 9, 391), (108, 10, 10, 392), (27, 10, 11, 393), (124, 10, 12, 394), (30, 10, 13, 395), (33, 10, 14, 396), (196, 10, 15, 397), (199, 10, 16, 398)]
def mm_ci10 : List (Nat × Int32 × Nat) := [(69, 1000000, 998)]
def mm_cj10 : List (Nat × Int64 × Nat) := [(74, 25779555029136, 1000), (76, 54156738319193, 1001), (149, 16384, 1032), (220, 2, 1365)]
def mm_fk11 : List (Nat × Nat × Nat × Nat) := [(178, 1, 0, 45), (171, 1, 1, 52), (125, 2, 0, 91), (78, 2, 1, 95), (15, 11, 0, 440), (19, 11, 1, 441), (23, 11, 2, 442), (11, 11, 3, 443), (35, 11, 4, 444), (75, 11, 5, 445), (104, 11, 6, 446), (107, 11, 7, 447), (86, 11, 8, 448), (39, 11, 9, 449), (43, 11, 10, 450), (46, 11, 11, 451), (49, 11, 12, 452), (52, 11, 13, 453), (83, 11, 14, 454), (172, 11, 15, 455)]
def mm_ci11 : List (Nat × Int32 × Nat) := []
def mm_cj11 : List (Nat × Int64 × Nat) := [(113, (-1), 1063), (115, 16384, 1064), (33, 4294967295, 1070), (117, 2048, 1076), (119, 16777216, 1077), (121, 256, 1078), (123, 2, 1101), (138, 4294967296, 1110), (166, 65536, 1372)]
def mm_fk12 : List (Nat × Nat × Nat × Nat) := [(87, 12, 0, 1449), (7, 12, 1, 1450), (91, 12, 2, 1451), (13, 12, 3, 1452), (98, 12, 4, 1453), (101, 12, 5, 1454), (158, 12, 6, 1455), (154, 12, 7, 1456), (104, 12, 8, 1457), (107, 12, 9, 1458), (110, 12, 10, 1459), (113, 12, 11, 1460), (116, 12, 12, 1461), (178, 12, 13, 1462), (175, 12, 14, 1463), (172, 12, 15, 1464), (16, 12, 16, 1465), (19, 12, 17, 1466), (22, 12, 18, 1467), (25, 12, 19, 1468), (215, 12, 20, 1469), (218, 12, 21, 1470), (28, 12, 22, 1471), (31, 12, 23, 1472), (35, 12, 24, 1473), (38, 12, 25, 1474), (41, 12, 26, 1475), (44, 12, 27, 1476), (307, 12, 28, 1477), (292, 12, 29, 1478), (295, 12, 30, 1479), (47, 12, 31, 1480), (50, 12, 32, 1481), (319, 12, 33, 1482), (325, 12, 34, 1483), (349, 12, 35, 1484), (53, 12, 36, 1485), (340, 12, 37, 1486), (343, 12, 38, 1487), (346, 12, 39, 1488), (57, 12, 40, 1489), (406, 12, 41, 1490), (412, 12, 42, 1491), (415, 12, 43, 1492), (424, 12, 44, 1493), (427, 12, 45, 1494), (60, 12, 46, 1495), (63, 12, 47, 1496), (66, 12, 48, 1497), (69, 12, 49, 1498), (72, 12, 50, 1499), (75, 12, 51, 1500), (510, 12, 52, 1501), (519, 12, 53, 1502), (522, 12, 54, 1503), (78, 12, 55, 1504), (81, 12, 56, 1505), (84, 12, 57, 1506)]
def mm_ci12 : List (Nat × Int32 × Nat) := [(34, 32768, 1448), (119, (-306674912), 1668), (120, 79764919, 1672), (121, 65521, 1676), (122, 65536, 1677), (129, 374761393, 1681), (130, 606290984, 1682), (123, (-2048144777), 1683), (131, 1640531535, 1684), (128, (-1640531535), 1694), (139, (-1028477379), 1695), (140, 668265263, 1696), (271, 1000000000, 1701), (210, 65535, 1738)]
def mm_cj12 : List (Nat × Int64 × Nat) := [(188, 1048576, 1763), (266, 2147483647, 1828), (272, 4294967295, 1833), (274, 16384, 1834), (280, 256, 1839), (282, 25779555029136, 1844), (284, 54156738319193, 1845), (338, (-1), 1882), (328, 2048, 1891), (323, 16777216, 1896), (336, 2, 1917), (368, 4294967296, 1926), (479, 2147483648, 2041), (528, 65536, 2082)]
def mm_fk13 : List (Nat × Nat × Nat × Nat) := []
def mm_ci13 : List (Nat × Int32 × Nat) := []
def mm_cj13 : List (Nat × Int64 × Nat) := []
def mm_fk14 : List (Nat × Nat × Nat × Nat) := []
def mm_ci14 : List (Nat × Int32 × Nat) := []
def mm_cj14 : List (Nat × Int64 × Nat) := []
def mm_fk15 : List (Nat × Nat × Nat × Nat) := []
def mm_ci15 : List (Nat × Int32 × Nat) := []
def mm_cj15 : List (Nat × Int64 × Nat) := []
def mm_fkA (o : Nat) : List (Nat × Nat × Nat × Nat) := (mm_nth [mm_fk0, mm_fk1, mm_fk2, mm_fk3, mm_fk4, mm_fk5, mm_fk6, mm_fk7, mm_fk8, mm_fk9, mm_fk10, mm_fk11, mm_fk12, mm_fk13, mm_fk14, mm_fk15] o).getD []
def mm_ciA (o : Nat) : List (Nat × Int32 × Nat) := (mm_nth [mm_ci0, mm_ci1, mm_ci2, mm_ci3, mm_ci4, mm_ci5, mm_ci6, mm_ci7, mm_ci8, mm_ci9, mm_ci10, mm_ci11, mm_ci12, mm_ci13, mm_ci14, mm_ci15] o).getD []
def mm_cjA (o : Nat) : List (Nat × Int64 × Nat) := (mm_nth [mm_cj0, mm_cj1, mm_cj2, mm_cj3, mm_cj4, mm_cj5, mm_cj6, mm_cj7, mm_cj8, mm_cj9, mm_cj10, mm_cj11, mm_cj12, mm_cj13, mm_cj14, mm_cj15] o).getD []
def mm_fwd (o : Nat) (e : Nat × Nat × Nat × Nat) : Cond := .fieldLink (mm_cn o) e.1 (mm_cn e.2.1) (mm_T e.2.1 e.2.2.1).2.1 (mm_T e.2.1 e.2.2.1).2.2.1
def mm_fwok (o : Nat) (e : Nat × Nat × Nat × Nat) : Bool := decide (tables_1[e.2.2.2]? = some (mm_fwd o e)) && decide (e.2.2.1 < mm_N e.2.1) && decide (e.2.1 < 13)
def mm_ciok (o : Nat) (e : Nat × Int32 × Nat) : Bool := decide (tables_1[e.2.2]? = some (.constant (mm_cn o) e.1 e.2.1))
def mm_cjok (o : Nat) (e : Nat × Int64 × Nat) : Bool := decide (tables_1[e.2.2]? = some (.constantLong (mm_cn o) e.1 e.2.1))
theorem mm_fkk0 : mm_fk0.all (mm_fwok 0) = true := by decide +kernel
theorem mm_fkk1 : mm_fk1.all (mm_fwok 1) = true := by decide +kernel
theorem mm_fkk2 : mm_fk2.all (mm_fwok 2) = true := by decide +kernel
theorem mm_fkk3 : mm_fk3.all (mm_fwok 3) = true := by decide +kernel
theorem mm_fkk4 : mm_fk4.all (mm_fwok 4) = true := by decide +kernel
theorem mm_fkk5 : mm_fk5.all (mm_fwok 5) = true := by decide +kernel
theorem mm_fkk6 : mm_fk6.all (mm_fwok 6) = true := by decide +kernel
theorem mm_fkk7 : mm_fk7.all (mm_fwok 7) = true := by decide +kernel
theorem mm_fkk8 : mm_fk8.all (mm_fwok 8) = true := by decide +kernel
theorem mm_fkk9 : mm_fk9.all (mm_fwok 9) = true := by decide +kernel
theorem mm_fkk10 : mm_fk10.all (mm_fwok 10) = true := by decide +kernel
theorem mm_fkk11 : mm_fk11.all (mm_fwok 11) = true := by decide +kernel
theorem mm_fkk12 : mm_fk12.all (mm_fwok 12) = true := by decide +kernel
theorem mm_fkk13 : mm_fk13.all (mm_fwok 13) = true := by decide +kernel
theorem mm_fkk14 : mm_fk14.all (mm_fwok 14) = true := by decide +kernel
theorem mm_fkk15 : mm_fk15.all (mm_fwok 15) = true := by decide +kernel
theorem mm_fkk : ∀ o, (mm_fkA o).all (mm_fwok o) = true := by
  intro o
  match o with
  | 0 => exact mm_fkk0
  | 1 => exact mm_fkk1
  | 2 => exact mm_fkk2
  | 3 => exact mm_fkk3
  | 4 => exact mm_fkk4
  | 5 => exact mm_fkk5
  | 6 => exact mm_fkk6
  | 7 => exact mm_fkk7
  | 8 => exact mm_fkk8
  | 9 => exact mm_fkk9
  | 10 => exact mm_fkk10
  | 11 => exact mm_fkk11
  | 12 => exact mm_fkk12
  | 13 => exact mm_fkk13
  | 14 => exact mm_fkk14
  | 15 => exact mm_fkk15
  | n + 16 => rfl
theorem mm_cik0 : mm_ci0.all (mm_ciok 0) = true := by decide +kernel
theorem mm_cik1 : mm_ci1.all (mm_ciok 1) = true := by decide +kernel
theorem mm_cik2 : mm_ci2.all (mm_ciok 2) = true := by decide +kernel
theorem mm_cik3 : mm_ci3.all (mm_ciok 3) = true := by decide +kernel
theorem mm_cik4 : mm_ci4.all (mm_ciok 4) = true := by decide +kernel
theorem mm_cik5 : mm_ci5.all (mm_ciok 5) = true := by decide +kernel
theorem mm_cik6 : mm_ci6.all (mm_ciok 6) = true := by decide +kernel
theorem mm_cik7 : mm_ci7.all (mm_ciok 7) = true := by decide +kernel
theorem mm_cik8 : mm_ci8.all (mm_ciok 8) = true := by decide +kernel
theorem mm_cik9 : mm_ci9.all (mm_ciok 9) = true := by decide +kernel
theorem mm_cik10 : mm_ci10.all (mm_ciok 10) = true := by decide +kernel
theorem mm_cik11 : mm_ci11.all (mm_ciok 11) = true := by decide +kernel
theorem mm_cik12 : mm_ci12.all (mm_ciok 12) = true := by decide +kernel
theorem mm_cik13 : mm_ci13.all (mm_ciok 13) = true := by decide +kernel
theorem mm_cik14 : mm_ci14.all (mm_ciok 14) = true := by decide +kernel
theorem mm_cik15 : mm_ci15.all (mm_ciok 15) = true := by decide +kernel
theorem mm_cik : ∀ o, (mm_ciA o).all (mm_ciok o) = true := by
  intro o
  match o with
  | 0 => exact mm_cik0
  | 1 => exact mm_cik1
  | 2 => exact mm_cik2
  | 3 => exact mm_cik3
  | 4 => exact mm_cik4
  | 5 => exact mm_cik5
  | 6 => exact mm_cik6
  | 7 => exact mm_cik7
  | 8 => exact mm_cik8
  | 9 => exact mm_cik9
  | 10 => exact mm_cik10
  | 11 => exact mm_cik11
  | 12 => exact mm_cik12
  | 13 => exact mm_cik13
  | 14 => exact mm_cik14
  | 15 => exact mm_cik15
  | n + 16 => rfl
theorem mm_cjk0 : mm_cj0.all (mm_cjok 0) = true := by decide +kernel
theorem mm_cjk1 : mm_cj1.all (mm_cjok 1) = true := by decide +kernel
theorem mm_cjk2 : mm_cj2.all (mm_cjok 2) = true := by decide +kernel
theorem mm_cjk3 : mm_cj3.all (mm_cjok 3) = true := by decide +kernel
theorem mm_cjk4 : mm_cj4.all (mm_cjok 4) = true := by decide +kernel
theorem mm_cjk5 : mm_cj5.all (mm_cjok 5) = true := by decide +kernel
theorem mm_cjk6 : mm_cj6.all (mm_cjok 6) = true := by decide +kernel
theorem mm_cjk7 : mm_cj7.all (mm_cjok 7) = true := by decide +kernel
theorem mm_cjk8 : mm_cj8.all (mm_cjok 8) = true := by decide +kernel
theorem mm_cjk9 : mm_cj9.all (mm_cjok 9) = true := by decide +kernel
theorem mm_cjk10 : mm_cj10.all (mm_cjok 10) = true := by decide +kernel
theorem mm_cjk11 : mm_cj11.all (mm_cjok 11) = true := by decide +kernel
theorem mm_cjk12 : mm_cj12.all (mm_cjok 12) = true := by decide +kernel
theorem mm_cjk13 : mm_cj13.all (mm_cjok 13) = true := by decide +kernel
theorem mm_cjk14 : mm_cj14.all (mm_cjok 14) = true := by decide +kernel
theorem mm_cjk15 : mm_cj15.all (mm_cjok 15) = true := by decide +kernel
theorem mm_cjk : ∀ o, (mm_cjA o).all (mm_cjok o) = true := by
  intro o
  match o with
  | 0 => exact mm_cjk0
  | 1 => exact mm_cjk1
  | 2 => exact mm_cjk2
  | 3 => exact mm_cjk3
  | 4 => exact mm_cjk4
  | 5 => exact mm_cjk5
  | 6 => exact mm_cjk6
  | 7 => exact mm_cjk7
  | 8 => exact mm_cjk8
  | 9 => exact mm_cjk9
  | 10 => exact mm_cjk10
  | 11 => exact mm_cjk11
  | 12 => exact mm_cjk12
  | 13 => exact mm_cjk13
  | 14 => exact mm_cjk14
  | 15 => exact mm_cjk15
  | n + 16 => rfl
/-- a field of the pool: its class and number -/
def mm_fld (o idx : Nat) : Option (Nat × Nat) := (mm_look (mm_fkA o) idx).map (fun e => (e.1, e.2.1))
theorem mm_fld_ok {o idx ci k : Nat} (h : mm_fld o idx = some (ci, k)) : Cond.fieldLink (mm_cn o) idx (mm_cn ci) (mm_T ci k).2.1 (mm_T ci k).2.2.1 ∈ mm_tbl ∧ k < mm_N ci ∧ ci < 13 := by
  unfold mm_fld at h
  cases h1 : mm_look (mm_fkA o) idx with
  | none => rw [h1] at h; cases h
  | some e =>
    rw [h1] at h
    cases h
    have h2 := List.all_eq_true.mp (mm_fkk o) _ (mm_look_mem _ _ _ h1)
    simp only [mm_fwok, Bool.and_eq_true, decide_eq_true_eq] at h2
    exact ⟨mm_tb h2.1.1, h2.1.2, h2.2⟩
def mm_cst (o idx : Nat) : Option Int32 := (mm_look (mm_ciA o) idx).map (fun e => e.1)
theorem mm_cst_ok {o idx : Nat} {v : Int32} (h : mm_cst o idx = some v) : Cond.constant (mm_cn o) idx v ∈ mm_tbl := by
  unfold mm_cst at h
  cases h1 : mm_look (mm_ciA o) idx with
  | none => rw [h1] at h; cases h
  | some e =>
    rw [h1] at h
    cases h
    have h2 := List.all_eq_true.mp (mm_cik o) _ (mm_look_mem _ _ _ h1)
    simp only [mm_ciok, decide_eq_true_eq] at h2
    exact mm_tb h2
def mm_csl (o idx : Nat) : Option Int64 := (mm_look (mm_cjA o) idx).map (fun e => e.1)
theorem mm_csl_ok {o idx : Nat} {v : Int64} (h : mm_csl o idx = some v) : Cond.constantLong (mm_cn o) idx v ∈ mm_tbl := by
  unfold mm_csl at h
  cases h1 : mm_look (mm_cjA o) idx with
  | none => rw [h1] at h; cases h
  | some e =>
    rw [h1] at h
    cases h
    have h2 := List.all_eq_true.mp (mm_cjk o) _ (mm_look_mem _ _ _ h1)
    simp only [mm_cjok, decide_eq_true_eq] at h2
    exact mm_tb h2
def mm_ty (c k : Nat) : FieldType := (parseFieldDescriptor (mm_T c k).2.2.1).getD .int
theorem mm_ty0 : ∀ k, k < mm_N 0 → parseFieldDescriptor (mm_T 0 k).2.2.1 = some (mm_ty 0 k) := by decide +kernel
theorem mm_nm0 : ∀ a, a < mm_N 0 → ∀ b, b < mm_N 0 → a ≠ b → (mm_T 0 a).2.1 ≠ (mm_T 0 b).2.1 := by decide +kernel
theorem mm_la0 : ∀ k, k < mm_N 0 → tables_1[(mm_nth [500, 502, 504, 506, 508, 510, 512, 514, 516, 518, 520] k).getD 0]? = some (u_lay (mm_cn 0) (mm_T 0) k) := by decide +kernel
theorem mm_ty1 : ∀ k, k < mm_N 1 → parseFieldDescriptor (mm_T 1 k).2.2.1 = some (mm_ty 1 k) := by decide +kernel
theorem mm_nm1 : ∀ a, a < mm_N 1 → ∀ b, b < mm_N 1 → a ≠ b → (mm_T 1 a).2.1 ≠ (mm_T 1 b).2.1 := by decide +kernel
theorem mm_la1 : ∀ k, k < mm_N 1 → tables_1[(mm_nth [64, 66, 68, 70, 72, 74, 76] k).getD 0]? = some (u_lay (mm_cn 1) (mm_T 1) k) := by decide +kernel
theorem mm_ty2 : ∀ k, k < mm_N 2 → parseFieldDescriptor (mm_T 2 k).2.2.1 = some (mm_ty 2 k) := by decide +kernel
theorem mm_nm2 : ∀ a, a < mm_N 2 → ∀ b, b < mm_N 2 → a ≠ b → (mm_T 2 a).2.1 ≠ (mm_T 2 b).2.1 := by decide +kernel
theorem mm_la2 : ∀ k, k < mm_N 2 → tables_1[(mm_nth [112, 114, 116, 118, 120, 122, 124] k).getD 0]? = some (u_lay (mm_cn 2) (mm_T 2) k) := by decide +kernel
theorem mm_ty3 : ∀ k, k < mm_N 3 → parseFieldDescriptor (mm_T 3 k).2.2.1 = some (mm_ty 3 k) := by decide +kernel
theorem mm_nm3 : ∀ a, a < mm_N 3 → ∀ b, b < mm_N 3 → a ≠ b → (mm_T 3 a).2.1 ≠ (mm_T 3 b).2.1 := by decide +kernel
theorem mm_la3 : ∀ k, k < mm_N 3 → tables_1[(mm_nth [146, 148, 150, 152, 154, 156] k).getD 0]? = some (u_lay (mm_cn 3) (mm_T 3) k) := by decide +kernel
theorem mm_ty4 : ∀ k, k < mm_N 4 → parseFieldDescriptor (mm_T 4 k).2.2.1 = some (mm_ty 4 k) := by decide +kernel
theorem mm_nm4 : ∀ a, a < mm_N 4 → ∀ b, b < mm_N 4 → a ≠ b → (mm_T 4 a).2.1 ≠ (mm_T 4 b).2.1 := by decide +kernel
theorem mm_la4 : ∀ k, k < mm_N 4 → tables_1[(mm_nth [174, 176, 178, 180, 182, 184, 186] k).getD 0]? = some (u_lay (mm_cn 4) (mm_T 4) k) := by decide +kernel
theorem mm_ty5 : ∀ k, k < mm_N 5 → parseFieldDescriptor (mm_T 5 k).2.2.1 = some (mm_ty 5 k) := by decide +kernel
theorem mm_nm5 : ∀ a, a < mm_N 5 → ∀ b, b < mm_N 5 → a ≠ b → (mm_T 5 a).2.1 ≠ (mm_T 5 b).2.1 := by decide +kernel
theorem mm_la5 : ∀ k, k < mm_N 5 → tables_1[(mm_nth [207, 209, 211, 213, 215, 217, 219, 221] k).getD 0]? = some (u_lay (mm_cn 5) (mm_T 5) k) := by decide +kernel
theorem mm_ty6 : ∀ k, k < mm_N 6 → parseFieldDescriptor (mm_T 6 k).2.2.1 = some (mm_ty 6 k) := by decide +kernel
theorem mm_nm6 : ∀ a, a < mm_N 6 → ∀ b, b < mm_N 6 → a ≠ b → (mm_T 6 a).2.1 ≠ (mm_T 6 b).2.1 := by decide +kernel
theorem mm_la6 : ∀ k, k < mm_N 6 → tables_1[(mm_nth [271, 273, 275, 277, 279, 281, 283, 285, 287, 289, 291, 293] k).getD 0]? = some (u_lay (mm_cn 6) (mm_T 6) k) := by decide +kernel
theorem mm_ty7 : ∀ k, k < mm_N 7 → parseFieldDescriptor (mm_T 7 k).2.2.1 = some (mm_ty 7 k) := by decide +kernel
theorem mm_nm7 : ∀ a, a < mm_N 7 → ∀ b, b < mm_N 7 → a ≠ b → (mm_T 7 a).2.1 ≠ (mm_T 7 b).2.1 := by decide +kernel
theorem mm_la7 : ∀ k, k < mm_N 7 → tables_1[(mm_nth [244, 246, 248, 250, 252, 254] k).getD 0]? = some (u_lay (mm_cn 7) (mm_T 7) k) := by decide +kernel
theorem mm_ty8 : ∀ k, k < mm_N 8 → parseFieldDescriptor (mm_T 8 k).2.2.1 = some (mm_ty 8 k) := by decide +kernel
theorem mm_nm8 : ∀ a, a < mm_N 8 → ∀ b, b < mm_N 8 → a ≠ b → (mm_T 8 a).2.1 ≠ (mm_T 8 b).2.1 := by decide +kernel
theorem mm_la8 : ∀ k, k < mm_N 8 → tables_1[(mm_nth [317, 319, 321, 323, 325, 327, 329, 331, 333, 335, 337, 339, 341, 343, 345] k).getD 0]? = some (u_lay (mm_cn 8) (mm_T 8) k) := by decide +kernel
theorem mm_ty9 : ∀ k, k < mm_N 9 → parseFieldDescriptor (mm_T 9 k).2.2.1 = some (mm_ty 9 k) := by decide +kernel
theorem mm_nm9 : ∀ a, a < mm_N 9 → ∀ b, b < mm_N 9 → a ≠ b → (mm_T 9 a).2.1 ≠ (mm_T 9 b).2.1 := by decide +kernel
theorem mm_la9 : ∀ k, k < mm_N 9 → tables_1[(mm_nth [360, 362, 364, 366, 368, 370] k).getD 0]? = some (u_lay (mm_cn 9) (mm_T 9) k) := by decide +kernel
theorem mm_ty10 : ∀ k, k < mm_N 10 → parseFieldDescriptor (mm_T 10 k).2.2.1 = some (mm_ty 10 k) := by decide +kernel
theorem mm_nm10 : ∀ a, a < mm_N 10 → ∀ b, b < mm_N 10 → a ≠ b → (mm_T 10 a).2.1 ≠ (mm_T 10 b).2.1 := by decide +kernel
theorem mm_la10 : ∀ k, k < mm_N 10 → tables_1[(mm_nth [399, 401, 403, 405, 407, 409, 411, 413, 415, 417, 419, 421, 423, 425, 427, 429, 431] k).getD 0]? = some (u_lay (mm_cn 10) (mm_T 10) k) := by decide +kernel
theorem mm_ty11 : ∀ k, k < mm_N 11 → parseFieldDescriptor (mm_T 11 k).2.2.1 = some (mm_ty 11 k) := by decide +kernel
theorem mm_nm11 : ∀ a, a < mm_N 11 → ∀ b, b < mm_N 11 → a ≠ b → (mm_T 11 a).2.1 ≠ (mm_T 11 b).2.1 := by decide +kernel
theorem mm_la11 : ∀ k, k < mm_N 11 → tables_1[(mm_nth [456, 458, 460, 462, 464, 466, 468, 470, 472, 474, 476, 478, 480, 482, 484, 486] k).getD 0]? = some (u_lay (mm_cn 11) (mm_T 11) k) := by decide +kernel
theorem mm_ty12 : ∀ k, k < mm_N 12 → parseFieldDescriptor (mm_T 12 k).2.2.1 = some (mm_ty 12 k) := by decide +kernel
theorem mm_nm12 : ∀ a, a < mm_N 12 → ∀ b, b < mm_N 12 → a ≠ b → (mm_T 12 a).2.1 ≠ (mm_T 12 b).2.1 := by decide +kernel
theorem mm_la12 : ∀ k, k < mm_N 12 → tables_1[(mm_nth [1507, 1509, 1511, 1513, 1515, 1517, 1519, 1521, 1523, 1525, 1527, 1529, 1531, 1533, 1535, 1537, 1539, 1541, 1543, 1545, 1547, 1549, 1551, 1553, 1555, 1557, 1559, 1561, 1563, 1565, 1567, 1569, 1571, 1573, 1575, 1577, 1579, 1581, 1583, 1585, 1587, 1589, 1591, 1593, 1595, 1597, 1599, 1601, 1603, 1605, 1607, 1609, 1611, 1613, 1615, 1617, 1619, 1621] k).getD 0]? = some (u_lay (mm_cn 12) (mm_T 12) k) := by decide +kernel
theorem mm_ty_ok : ∀ c, c < 13 → ∀ k, k < mm_N c → parseFieldDescriptor (mm_T c k).2.2.1 = some (mm_ty c k) := by
  intro c hc
  match c, hc with
  | 0, _ => exact mm_ty0
  | 1, _ => exact mm_ty1
  | 2, _ => exact mm_ty2
  | 3, _ => exact mm_ty3
  | 4, _ => exact mm_ty4
  | 5, _ => exact mm_ty5
  | 6, _ => exact mm_ty6
  | 7, _ => exact mm_ty7
  | 8, _ => exact mm_ty8
  | 9, _ => exact mm_ty9
  | 10, _ => exact mm_ty10
  | 11, _ => exact mm_ty11
  | 12, _ => exact mm_ty12
  | n + 13, h => exact absurd h (by omega)
theorem mm_nm_ok : ∀ c, c < 13 → ∀ a, a < mm_N c → ∀ b, b < mm_N c → a ≠ b → (mm_T c a).2.1 ≠ (mm_T c b).2.1 := by
  intro c hc
  match c, hc with
  | 0, _ => exact mm_nm0
  | 1, _ => exact mm_nm1
  | 2, _ => exact mm_nm2
  | 3, _ => exact mm_nm3
  | 4, _ => exact mm_nm4
  | 5, _ => exact mm_nm5
  | 6, _ => exact mm_nm6
  | 7, _ => exact mm_nm7
  | 8, _ => exact mm_nm8
  | 9, _ => exact mm_nm9
  | 10, _ => exact mm_nm10
  | 11, _ => exact mm_nm11
  | 12, _ => exact mm_nm12
  | n + 13, h => exact absurd h (by omega)
theorem mm_in_ok : ∀ c, c < 13 → ∀ x ∈ u_ws (mm_cn c) (mm_T c) (mm_N c), x ∈ mm_tbl := by
  intro c hc x hx
  obtain ⟨k, hk, rfl⟩ := List.mem_map.mp hx
  have hk := List.mem_range.mp hk
  match c, hc, hk with
  | 0, _, hk => exact mm_tb (mm_la0 k hk)
  | 1, _, hk => exact mm_tb (mm_la1 k hk)
  | 2, _, hk => exact mm_tb (mm_la2 k hk)
  | 3, _, hk => exact mm_tb (mm_la3 k hk)
  | 4, _, hk => exact mm_tb (mm_la4 k hk)
  | 5, _, hk => exact mm_tb (mm_la5 k hk)
  | 6, _, hk => exact mm_tb (mm_la6 k hk)
  | 7, _, hk => exact mm_tb (mm_la7 k hk)
  | 8, _, hk => exact mm_tb (mm_la8 k hk)
  | 9, _, hk => exact mm_tb (mm_la9 k hk)
  | 10, _, hk => exact mm_tb (mm_la10 k hk)
  | 11, _, hk => exact mm_tb (mm_la11 k hk)
  | 12, _, hk => exact mm_tb (mm_la12 k hk)
  | n + 13, h, _ => exact absurd h (by omega)
theorem mm_cl_at : ∀ c, c < 13 → mm_cl[c]? = some (mm_cn c, mm_T c, mm_N c) := by
  intro c hc
  match c, hc with
  | 0, _ => rfl
  | 1, _ => rfl
  | 2, _ => rfl
  | 3, _ => rfl
  | 4, _ => rfl
  | 5, _ => rfl
  | 6, _ => rfl
  | 7, _ => rfl
  | 8, _ => rfl
  | 9, _ => rfl
  | 10, _ => rfl
  | 11, _ => rfl
  | 12, _ => rfl
  | n + 13, h => exact absurd h (by omega)
theorem mm_decl : ∀ c, c < 13 → ∀ k, k < mm_N c → (mm_T c k).1 = mm_cn c := by
  intro c hc
  match c, hc with
  | 0, _ => decide +kernel
  | 1, _ => decide +kernel
  | 2, _ => decide +kernel
  | 3, _ => decide +kernel
  | 4, _ => decide +kernel
  | 5, _ => decide +kernel
  | 6, _ => decide +kernel
  | 7, _ => decide +kernel
  | 8, _ => decide +kernel
  | 9, _ => decide +kernel
  | 10, _ => decide +kernel
  | 11, _ => decide +kernel
  | 12, _ => decide +kernel
  | n + 13, h => exact absurd h (by omega)
/-- a shape's fields are its class's, type by type -/
def mm_fdok (c k : Nat) : mm_Fd → Bool
  | .inl _ => !(decide (mm_ty c k = .int)) && !(decide (mm_ty c k = .long)) && !(decide (mm_ty c k = .boolean))
  | .inr t => decide (mm_ty c k = t) && !(mm_T c k).2.2.2
def mm_fdsok (c : Nat) : Nat → List mm_Fd → Bool
  | k, [] => decide (k = mm_N c)
  | k, f :: r => mm_fdok c k f && mm_fdsok c (k + 1) r
def mm_shok : mm_Sh → Bool
  | .inl (c, fs) => decide (c < 13) && mm_fdsok c 0 fs
  | .inr _ => true
theorem mm_sh_ok : mm_sh.all mm_shok = true := by decide +kernel
theorem mm_fds_at (c : Nat) : ∀ (l : List mm_Fd) (k j : Nat) (f : mm_Fd), mm_fdsok c k l = true → mm_nth l j = some f → mm_fdok c (k + j) f = true
  | [], k, j, f, h, hj => by cases hj
  | g :: l, k, 0, f, h, hj => by cases hj; simp only [mm_fdsok, Bool.and_eq_true] at h; exact h.1
  | g :: l, k, j + 1, f, h, hj => by
    simp only [mm_fdsok, Bool.and_eq_true] at h
    have := mm_fds_at c l (k + 1) j f h.2 hj
    rw [show k + (j + 1) = k + 1 + j by omega]
    exact this
theorem mm_sh_at {p c k : Nat} {fs : List mm_Fd} {f : mm_Fd} (h : mm_nth mm_sh p = some (.inl (c, fs))) (hf : mm_nth fs k = some f) : mm_fdok c k f = true := by
  rw [mm_nth_eq] at h
  have h1 := List.all_eq_true.mp mm_sh_ok _ (List.mem_of_getElem? h)
  simp only [mm_shok, Bool.and_eq_true] at h1
  have := mm_fds_at c fs 0 k f h1.2 hf
  simpa using this
