/-! the layout that the law makes -/
def lw_y0 : List pg_D := [.inl (10, [.inr (1), .inr (3), .inr (8), .inr (13), .inr (19), .inr (153), .inr (161), .inr (164), .inl 2, .inl 2, .inl 2, .inl 2, .inl 1]), .inl (7, [.inr (2), .inl 0, .inl 0, .inl 0, .inl 0, .inl 0, .inl 1, .inl 0, .inl 0, .inl 0]), .inr (.char, 1000, none), .inl (9, [.inr (4), .inr (5), .inr (6), .inr (7), .inl 0, .inl 0]), .inr (.int, 6, none), .inr (.int, 6, none), .inr (.int, 6, none), .inr (.int, 8, none), .inl (9, [.inr (9), .inr (10), .inr (11), .inr (12), .inl 0, .inl 0]), .inr (.int, 6, none), .inr (.int, 6, none), .inr (.int, 6, none), .inr (.int, 8, none), .inl (2, [.inr (14), .inr (15), .inr (16), .inr (17), .inr (18), .inl 0]), .inr (.int, 8, none), .inr (.int, 8, none), .inr (.int, 8, none), .inr (.int, 12, none), .inr (.int, 10, none), .inl (6, [.inr (20), .inr (21), .inr (22), .inr (23), .inl 0, .inl 0]), .inr (.object "PegLaws$State", 17, some (some (fun j => 24 + 5 * j))), .inr (.object "PegLaws$State", 4, some (some (fun j => 109 + 11 * j))), .inr (.object "PegLaws$Felt", 4, some (some (fun j => 114 + 11 * j))), .inr (.boolean, 4, none), .inl (9, [.inr (25), .inr (26), .inr (27), .inr (28), .inl 0, .inl 0]), .inr (.int, 6, none), .inr (.int, 6, none), .inr (.int, 6, none), .inr (.int, 8, none)]
def lw_y1 : List pg_D := [.inl (9, [.inr (30), .inr (31), .inr (32), .inr (33), .inl 0, .inl 0]), .inr (.int, 6, none), .inr (.int, 6, none), .inr (.int, 6, none), .inr (.int, 8, none), .inl (9, [.inr (35), .inr (36), .inr (37), .inr (38), .inl 0, .inl 0]), .inr (.int, 6, none), .inr (.int, 6, none), .inr (.int, 6, none), .inr (.int, 8, none), .inl (9, [.inr (40), .inr (41), .inr (42), .inr (43), .inl 0, .inl 0]), .inr (.int, 6, none), .inr (.int, 6, none), .inr (.int, 6, none), .inr (.int, 8, none), .inl (9, [.inr (45), .inr (46), .inr (47), .inr (48), .inl 0, .inl 0]), .inr (.int, 6, none), .inr (.int, 6, none), .inr (.int, 6, none), .inr (.int, 8, none), .inl (9, [.inr (50), .inr (51), .inr (52), .inr (53), .inl 0, .inl 0]), .inr (.int, 6, none), .inr (.int, 6, none), .inr (.int, 6, none), .inr (.int, 8, none), .inl (9, [.inr (55), .inr (56), .inr (57), .inr (58), .inl 0, .inl 0]), .inr (.int, 6, none), .inr (.int, 6, none), .inr (.int, 6, none)]
def lw_y2 : List pg_D := [.inr (.int, 8, none), .inl (9, [.inr (60), .inr (61), .inr (62), .inr (63), .inl 0, .inl 0]), .inr (.int, 6, none), .inr (.int, 6, none), .inr (.int, 6, none), .inr (.int, 8, none), .inl (9, [.inr (65), .inr (66), .inr (67), .inr (68), .inl 0, .inl 0]), .inr (.int, 6, none), .inr (.int, 6, none), .inr (.int, 6, none), .inr (.int, 8, none), .inl (9, [.inr (70), .inr (71), .inr (72), .inr (73), .inl 0, .inl 0]), .inr (.int, 6, none), .inr (.int, 6, none), .inr (.int, 6, none), .inr (.int, 8, none), .inl (9, [.inr (75), .inr (76), .inr (77), .inr (78), .inl 0, .inl 0]), .inr (.int, 6, none), .inr (.int, 6, none), .inr (.int, 6, none), .inr (.int, 8, none), .inl (9, [.inr (80), .inr (81), .inr (82), .inr (83), .inl 0, .inl 0]), .inr (.int, 6, none), .inr (.int, 6, none), .inr (.int, 6, none), .inr (.int, 8, none), .inl (9, [.inr (85), .inr (86), .inr (87), .inr (88), .inl 0, .inl 0]), .inr (.int, 6, none), .inr (.int, 6, none)]
def lw_y3 : List pg_D := [.inr (.int, 6, none), .inr (.int, 8, none), .inl (9, [.inr (90), .inr (91), .inr (92), .inr (93), .inl 0, .inl 0]), .inr (.int, 6, none), .inr (.int, 6, none), .inr (.int, 6, none), .inr (.int, 8, none), .inl (9, [.inr (95), .inr (96), .inr (97), .inr (98), .inl 0, .inl 0]), .inr (.int, 6, none), .inr (.int, 6, none), .inr (.int, 6, none), .inr (.int, 8, none), .inl (9, [.inr (100), .inr (101), .inr (102), .inr (103), .inl 0, .inl 0]), .inr (.int, 6, none), .inr (.int, 6, none), .inr (.int, 6, none), .inr (.int, 8, none), .inl (9, [.inr (105), .inr (106), .inr (107), .inr (108), .inl 0, .inl 0]), .inr (.int, 6, none), .inr (.int, 6, none), .inr (.int, 6, none), .inr (.int, 8, none), .inl (9, [.inr (110), .inr (111), .inr (112), .inr (113), .inl 0, .inl 0]), .inr (.int, 6, none), .inr (.int, 6, none), .inr (.int, 6, none), .inr (.int, 8, none), .inl (2, [.inr (115), .inr (116), .inr (117), .inr (118), .inr (119), .inl 0]), .inr (.int, 8, none)]
def lw_y4 : List pg_D := [.inr (.int, 8, none), .inr (.int, 8, none), .inr (.int, 12, none), .inr (.int, 10, none), .inl (9, [.inr (121), .inr (122), .inr (123), .inr (124), .inl 0, .inl 0]), .inr (.int, 6, none), .inr (.int, 6, none), .inr (.int, 6, none), .inr (.int, 8, none), .inl (2, [.inr (126), .inr (127), .inr (128), .inr (129), .inr (130), .inl 0]), .inr (.int, 8, none), .inr (.int, 8, none), .inr (.int, 8, none), .inr (.int, 12, none), .inr (.int, 10, none), .inl (9, [.inr (132), .inr (133), .inr (134), .inr (135), .inl 0, .inl 0]), .inr (.int, 6, none), .inr (.int, 6, none), .inr (.int, 6, none), .inr (.int, 8, none), .inl (2, [.inr (137), .inr (138), .inr (139), .inr (140), .inr (141), .inl 0]), .inr (.int, 8, none), .inr (.int, 8, none), .inr (.int, 8, none), .inr (.int, 12, none), .inr (.int, 10, none), .inl (9, [.inr (143), .inr (144), .inr (145), .inr (146), .inl 0, .inl 0]), .inr (.int, 6, none), .inr (.int, 6, none)]
def lw_y5 : List pg_D := [.inr (.int, 6, none), .inr (.int, 8, none), .inl (2, [.inr (148), .inr (149), .inr (150), .inr (151), .inr (152), .inl 0]), .inr (.int, 8, none), .inr (.int, 8, none), .inr (.int, 8, none), .inr (.int, 12, none), .inr (.int, 10, none), .inl (3, [.inr (154), .inr (155), .inr (156), .inr (157), .inr (158), .inr (159), .inr (160), .inl 0, .inl 0, .inl 0]), .inr (.int, 420, none), .inr (.int, 6, none), .inr (.int, 64, none), .inr (.int, 64, none), .inr (.boolean, 64, none), .inr (.long, 256, some none), .inr (.int, 6, none), .inl (0, [.inr (162), .inr (163)]), .inr (.long, 100, some none), .inr (.long, 100, some none), .inl (4, [.inr (165), .inr (166), .inr (167), .inr (168), .inl 0, .inl 0]), .inr (.int, 6, none), .inr (.int, 36, none), .inr (.int, 64, none), .inr (.int, 6, none), .inl (5, [.inr (170), .inr (171), .inr (172), .inr (173), .inr (174), .inr (175), .inr (176), .inr (177), .inr (178), .inr (181), .inl 0, .inl 0, .inl 0, .inl 0, .inl 0, .inl 0]), .inr (.long, 6, some none), .inr (.int, 6, none), .inr (.int, 6, none), .inr (.int, 6, none)]
def lw_y6 : List pg_D := [.inr (.int, 6, none), .inr (.int, 6, none), .inr (.int, 8, none), .inr (.int, 12, none), .inl (8, [.inr (179), .inr (180), .inl 0]), .inr (.int, 1000, none), .inr (.int, 32, none), .inl (8, [.inr (182), .inr (183), .inl 0]), .inr (.int, 1000, none), .inr (.int, 32, none), .inl (5, [.inr (185), .inr (186), .inr (187), .inr (188), .inr (189), .inr (190), .inr (191), .inr (192), .inr (193), .inr (196), .inl 0, .inl 0, .inl 0, .inl 0, .inl 0, .inl 0]), .inr (.long, 6, some none), .inr (.int, 6, none), .inr (.int, 6, none), .inr (.int, 6, none), .inr (.int, 6, none), .inr (.int, 6, none), .inr (.int, 8, none), .inr (.int, 12, none), .inl (8, [.inr (194), .inr (195), .inl 0]), .inr (.int, 1000, none), .inr (.int, 32, none), .inl (8, [.inr (197), .inr (198), .inl 0]), .inr (.int, 1000, none), .inr (.int, 32, none), .inl (1, [.inr (200), .inr (201), .inr (202), .inl 0, .inl 0, .inl 0]), .inr (.int, 30, none), .inr (.int, 30, none), .inr (.int, 30, none)]
def lw_y7 : List pg_D := [.inl (1, [.inr (204), .inr (205), .inr (206), .inl 0, .inl 0, .inl 0]), .inr (.int, 30, none), .inr (.int, 30, none), .inr (.int, 30, none), .inl (11, [.inl 0, .inr (208), .inl 0, .inl 0, .inr (209), .inr (210), .inr (211), .inl 0, .inl 0, .inr (212), .inr (213), .inr (214), .inr (215), .inl 0, .inr (216), .inr (217), .inl 0, .inl 0, .inl 0, .inr (218), .inr (219), .inr (220), .inr (221), .inl 0, .inr (222), .inr (223), .inr (224), .inr (225), .inl 0, .inl 0, .inr (226), .inr (227), .inr (228), .inr (229), .inl 0, .inl 0, .inr (230), .inl 1]), .inr (.int, 1000, none), .inr (.int, 1002, none), .inr (.int, 1002, none), .inr (.long, 1002, some none), .inr (.long, 26, some none), .inr (.int, 200, none), .inr (.int, 2200, none), .inr (.int, 2200, none), .inr (.long, 6, some none), .inr (.long, 6, some none), .inr (.int, 200, none), .inr (.int, 3, none), .inr (.int, 1100, none), .inr (.int, 1242, none), .inr (.boolean, 4, none), .inr (.int, 6, none), .inr (.int, 6, none), .inr (.int, 6, none), .inr (.int, 72, none), .inr (.int, 36, none), .inr (.int, 6, none), .inr (.int, 6, none), .inr (.int, 10, none), .inr (.long, 1, some none)]
def lw_lay : List pg_D := lw_y0 ++ (lw_y1 ++ (lw_y2 ++ (lw_y3 ++ (lw_y4 ++ (lw_y5 ++ (lw_y6 ++ (lw_y7)))))))
def lw_Λ : pg_L := fun b => lw_lay[b]?
set_option maxRecDepth 16000 in
theorem lw_11 : pg_isX11 lw_Λ := ⟨rfl, rfl, rfl, rfl, rfl, rfl, rfl, rfl, rfl, rfl, rfl, rfl, rfl, rfl, rfl, rfl, rfl, rfl, rfl, rfl, rfl, rfl, rfl, rfl⟩
theorem lw_st : ∀ j, j < 17 → pg_isX9 lw_Λ (24 + 5 * j) := by
  intro j hj
  match j, hj with
  | 0, _ => exact ⟨rfl, rfl, rfl, rfl, rfl⟩
  | 1, _ => exact ⟨rfl, rfl, rfl, rfl, rfl⟩
  | 2, _ => exact ⟨rfl, rfl, rfl, rfl, rfl⟩
  | 3, _ => exact ⟨rfl, rfl, rfl, rfl, rfl⟩
  | 4, _ => exact ⟨rfl, rfl, rfl, rfl, rfl⟩
  | 5, _ => exact ⟨rfl, rfl, rfl, rfl, rfl⟩
  | 6, _ => exact ⟨rfl, rfl, rfl, rfl, rfl⟩
  | 7, _ => exact ⟨rfl, rfl, rfl, rfl, rfl⟩
  | 8, _ => exact ⟨rfl, rfl, rfl, rfl, rfl⟩
  | 9, _ => exact ⟨rfl, rfl, rfl, rfl, rfl⟩
  | 10, _ => exact ⟨rfl, rfl, rfl, rfl, rfl⟩
  | 11, _ => exact ⟨rfl, rfl, rfl, rfl, rfl⟩
  | 12, _ => exact ⟨rfl, rfl, rfl, rfl, rfl⟩
  | 13, _ => exact ⟨rfl, rfl, rfl, rfl, rfl⟩
  | 14, _ => exact ⟨rfl, rfl, rfl, rfl, rfl⟩
  | 15, _ => exact ⟨rfl, rfl, rfl, rfl, rfl⟩
  | 16, _ => exact ⟨rfl, rfl, rfl, rfl, rfl⟩
  | k + 17, h => exact absurd h (by omega)
theorem lw_ma : ∀ j, j < 4 → pg_isX9 lw_Λ (109 + 11 * j) := by
  intro j hj
  match j, hj with
  | 0, _ => exact ⟨rfl, rfl, rfl, rfl, rfl⟩
  | 1, _ => exact ⟨rfl, rfl, rfl, rfl, rfl⟩
  | 2, _ => exact ⟨rfl, rfl, rfl, rfl, rfl⟩
  | 3, _ => exact ⟨rfl, rfl, rfl, rfl, rfl⟩
  | k + 4, h => exact absurd h (by omega)
theorem lw_mf : ∀ j, j < 4 → pg_isX2 lw_Λ (114 + 11 * j) := by
  intro j hj
  match j, hj with
  | 0, _ => exact ⟨rfl, rfl, rfl, rfl, rfl, rfl⟩
  | 1, _ => exact ⟨rfl, rfl, rfl, rfl, rfl, rfl⟩
  | 2, _ => exact ⟨rfl, rfl, rfl, rfl, rfl, rfl⟩
  | 3, _ => exact ⟨rfl, rfl, rfl, rfl, rfl, rfl⟩
  | k + 4, h => exact absurd h (by omega)
set_option maxRecDepth 16000 in
theorem lw_full : pg_full lw_Λ := ⟨rfl, ⟨rfl, rfl⟩, ⟨rfl, rfl, rfl, rfl, rfl⟩, ⟨rfl, rfl, rfl, rfl, rfl⟩, ⟨rfl, rfl, rfl, rfl, rfl, rfl⟩, ⟨rfl, rfl, rfl, rfl, rfl⟩, ⟨rfl, rfl, rfl, rfl, rfl, rfl, rfl, rfl⟩, ⟨rfl, rfl, rfl⟩, ⟨rfl, rfl, rfl, rfl, rfl⟩, ⟨rfl, rfl, rfl, rfl, rfl, rfl, rfl, rfl, rfl, rfl, rfl, rfl, rfl, rfl, rfl⟩, ⟨rfl, rfl, rfl, rfl, rfl, rfl, rfl, rfl, rfl, rfl, rfl, rfl, rfl, rfl, rfl⟩, ⟨rfl, rfl, rfl, rfl⟩, ⟨rfl, rfl, rfl, rfl⟩, lw_st, lw_ma, lw_mf⟩
set_option maxRecDepth 16000 in
theorem lw_out : lw_Λ 231 = some (.inr (.long, 1, some none)) := rfl
set_option maxRecDepth 16000 in
theorem lw_len : lw_lay.length = 232 := rfl
theorem lw_dom {b : Nat} {dd : pg_D} (h : lw_Λ b = some dd) : b < 232 := by
  have := (List.getElem?_eq_some_iff.mp h).1
  rwa [lw_len] at this
