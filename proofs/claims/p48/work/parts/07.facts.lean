/-! FACTS: classes, places, links (by program) -/
def rhoA : List (Int × Int × Int) := [(1, 0, 2), (1, 1, 3), (1, 2, 4), (1, 3, 5), (1, 4, 6), (1, 5, 7), (1, 6, 8), (1, 7, 9), (0, 0, 1), (10, 0, 11), (10, 1, 12), (10, 2, 13), (10, 3, 14), (10, 4, 15), (10, 5, 16), (10, 6, 17), (10, 7, 18), (0, 1, 10), (19, 0, 20), (19, 1, 21), (19, 2, 22), (19, 3, 23), (19, 4, 24), (19, 5, 25), (19, 6, 26), (19, 7, 27), (0, 2, 19), (28, 0, 29), (0, 4, 28), (30, 0, 31), (30, 1, 32), (30, 2, 33), (0, 5, 30), (0, 6, 34), (36, 0, 37), (36, 1, 38), (36, 2, 39), (36, 3, 40), (36, 4, 41), (36, 5, 42), (35, 0, 36), (0, 7, 35), (45, 0, 46), (45, 1, 47), (45, 2, 48), (45, 3, 49), (45, 4, 50), (45, 5, 51), (44, 0, 45), (43, 0, 44), (43, 1, 52), (43, 2, 53), (54, 0, 55), (54, 1, 56), (54, 2, 57), (54, 3, 58), (54, 4, 59), (54, 5, 60), (54, 6, 61), (54, 7, 62), (54, 8, 63), (52, 0, 54), (64, 0, 65), (64, 1, 66), (64, 2, 67), (64, 3, 68), (64, 4, 69), (64, 5, 70), (64, 6, 71), (64, 7, 72), (64, 8, 73), (52, 1, 64), (74, 0, 75), (74, 1, 76), (74, 2, 77), (74, 3, 78), (74, 4, 79), (74, 5, 80), (74, 6, 81), (74, 7, 82), (74, 8, 83), (52, 2, 74), (84, 0, 85), (84, 1, 86), (84, 2, 87), (84, 3, 88), (84, 4, 89), (84, 5, 90), (84, 6, 91), (84, 7, 92), (84, 8, 93), (52, 3, 84), (94, 0, 95), (94, 1, 96), (94, 2, 97), (94, 3, 98), (94, 4, 99), (94, 5, 100), (94, 6, 101), (94, 7, 102), (94, 8, 103), (52, 4, 94), (104, 0, 105), (104, 1, 106), (104, 2, 107), (104, 3, 108), (104, 4, 109), (104, 5, 110), (104, 6, 111), (104, 7, 112), (104, 8, 113), (52, 5, 104), (114, 0, 115), (114, 1, 116), (114, 2, 117), (114, 3, 118), (114, 4, 119), (114, 5, 120), (114, 6, 121), (114, 7, 122), (114, 8, 123), (52, 6, 114), (124, 0, 125), (124, 1, 126), (124, 2, 127), (124, 3, 128), (124, 4, 129), (124, 5, 130), (124, 6, 131), (124, 7, 132), (124, 8, 133), (52, 7, 124), (134, 0, 135), (134, 1, 136), (134, 2, 137), (134, 3, 138), (134, 4, 139), (134, 5, 140), (134, 6, 141), (134, 7, 142), (134, 8, 143), (52, 8, 134), (144, 0, 145), (144, 1, 146), (144, 2, 147), (144, 3, 148), (144, 4, 149), (144, 5, 150), (144, 6, 151), (144, 7, 152), (144, 8, 153), (52, 9, 144), (0, 8, 43), (154, 0, 155), (154, 1, 156), (154, 2, 157), (154, 3, 158), (154, 4, 159), (154, 5, 160), (154, 6, 161), (154, 7, 162), (154, 8, 163), (0, 9, 154), (164, 0, 165), (164, 1, 166), (164, 2, 167), (164, 3, 168), (164, 4, 169), (164, 5, 170), (0, 10, 164), (171, 0, 172), (171, 1, 173), (171, 2, 174), (171, 3, 175), (171, 4, 176), (171, 5, 177), (171, 6, 178), (0, 11, 171), (0, 12, 179), (0, 13, 180)]
def mupL (l : List (Int × Int × Int)) (σ : Mem) : Mem := l.foldl (fun τ q => mup τ q.1 q.2.1 q.2.2) σ
def rho : Mem := mupL rhoA (fun _ _ => -1)
set_option maxRecDepth 20000 in
theorem cf_X0 : CF 0 RX0 TX0 14 tyX0 := by
  refine ⟨rfl, by decide +kernel, tyX0_ok, nmX0, rfl, fun k hk => ?_⟩
  match k, hk with
  | 0, _ => exact ⟨rfl, .inr (.inr (.inr (.inr ⟨_, rfl⟩)))⟩
  | 1, _ => exact ⟨rfl, .inr (.inr (.inr (.inr ⟨_, rfl⟩)))⟩
  | 2, _ => exact ⟨rfl, .inr (.inr (.inr (.inr ⟨_, rfl⟩)))⟩
  | 3, _ => exact ⟨rfl, .inr (.inr (.inr (.inr ⟨_, rfl⟩)))⟩
  | 4, _ => exact ⟨rfl, .inr (.inr (.inr (.inr ⟨_, rfl⟩)))⟩
  | 5, _ => exact ⟨rfl, .inr (.inr (.inr (.inr ⟨_, rfl⟩)))⟩
  | 6, _ => exact ⟨rfl, .inr (.inr (.inr (.inr ⟨_, rfl⟩)))⟩
  | 7, _ => exact ⟨rfl, .inr (.inr (.inr (.inr ⟨_, rfl⟩)))⟩
  | 8, _ => exact ⟨rfl, .inl rfl⟩
  | 9, _ => exact ⟨rfl, .inl rfl⟩
  | 10, _ => exact ⟨rfl, .inl rfl⟩
  | 11, _ => exact ⟨rfl, .inl rfl⟩
  | 12, _ => exact ⟨rfl, .inl rfl⟩
  | 13, _ => exact ⟨rfl, .inl rfl⟩
  | k + 14, hk => omega
set_option maxRecDepth 20000 in
theorem cf_X1 : CF 1 RX1 TX1 10 tyX1 := by
  refine ⟨rfl, by decide +kernel, tyX1_ok, nmX1, rfl, fun k hk => ?_⟩
  match k, hk with
  | 0, _ => exact ⟨rfl, .inr (.inr (.inr (.inr ⟨_, rfl⟩)))⟩
  | 1, _ => exact ⟨rfl, .inr (.inr (.inr (.inr ⟨_, rfl⟩)))⟩
  | 2, _ => exact ⟨rfl, .inr (.inr (.inr (.inr ⟨_, rfl⟩)))⟩
  | 3, _ => exact ⟨rfl, .inr (.inr (.inr (.inr ⟨_, rfl⟩)))⟩
  | 4, _ => exact ⟨rfl, .inr (.inr (.inr (.inr ⟨_, rfl⟩)))⟩
  | 5, _ => exact ⟨rfl, .inr (.inr (.inr (.inr ⟨_, rfl⟩)))⟩
  | 6, _ => exact ⟨rfl, .inl rfl⟩
  | 7, _ => exact ⟨rfl, .inl rfl⟩
  | 8, _ => exact ⟨rfl, .inl rfl⟩
  | 9, _ => exact ⟨rfl, .inl rfl⟩
  | k + 10, hk => omega
set_option maxRecDepth 20000 in
theorem cf_X3 : CF 2 RX3 TX3 14 tyX3 := by
  refine ⟨rfl, by decide +kernel, tyX3_ok, nmX3, rfl, fun k hk => ?_⟩
  match k, hk with
  | 0, _ => exact ⟨rfl, .inr (.inr (.inr (.inr ⟨_, rfl⟩)))⟩
  | 1, _ => exact ⟨rfl, .inr (.inr (.inr (.inr ⟨_, rfl⟩)))⟩
  | 2, _ => exact ⟨rfl, .inr (.inr (.inr (.inr ⟨_, rfl⟩)))⟩
  | 3, _ => exact ⟨rfl, .inr (.inr (.inr (.inr ⟨_, rfl⟩)))⟩
  | 4, _ => exact ⟨rfl, .inr (.inr (.inr (.inr ⟨_, rfl⟩)))⟩
  | 5, _ => exact ⟨rfl, .inr (.inr (.inr (.inr ⟨_, rfl⟩)))⟩
  | 6, _ => exact ⟨rfl, .inl rfl⟩
  | 7, _ => exact ⟨rfl, .inl rfl⟩
  | 8, _ => exact ⟨rfl, .inl rfl⟩
  | 9, _ => exact ⟨rfl, .inl rfl⟩
  | 10, _ => exact ⟨rfl, .inr (.inr (.inl rfl))⟩
  | 11, _ => exact ⟨rfl, .inr (.inr (.inl rfl))⟩
  | 12, _ => exact ⟨rfl, .inl rfl⟩
  | 13, _ => exact ⟨rfl, .inl rfl⟩
  | k + 14, hk => omega
set_option maxRecDepth 20000 in
theorem cf_X4 : CF 3 RX4 TX4 1 tyX4 := by
  refine ⟨rfl, by decide +kernel, tyX4_ok, nmX4, rfl, fun k hk => ?_⟩
  match k, hk with
  | 0, _ => exact ⟨rfl, .inr (.inr (.inr (.inl ⟨_, rfl⟩)))⟩
  | k + 1, hk => omega
set_option maxRecDepth 20000 in
theorem cf_X5 : CF 4 RX5 TX5 9 tyX5 := by
  refine ⟨rfl, by decide +kernel, tyX5_ok, nmX5, rfl, fun k hk => ?_⟩
  match k, hk with
  | 0, _ => exact ⟨rfl, .inr (.inr (.inr (.inr ⟨_, rfl⟩)))⟩
  | 1, _ => exact ⟨rfl, .inr (.inr (.inr (.inr ⟨_, rfl⟩)))⟩
  | 2, _ => exact ⟨rfl, .inr (.inr (.inr (.inr ⟨_, rfl⟩)))⟩
  | 3, _ => exact ⟨rfl, .inr (.inr (.inr (.inr ⟨_, rfl⟩)))⟩
  | 4, _ => exact ⟨rfl, .inr (.inr (.inr (.inr ⟨_, rfl⟩)))⟩
  | 5, _ => exact ⟨rfl, .inr (.inr (.inr (.inr ⟨_, rfl⟩)))⟩
  | 6, _ => exact ⟨rfl, .inr (.inr (.inr (.inr ⟨_, rfl⟩)))⟩
  | 7, _ => exact ⟨rfl, .inl rfl⟩
  | 8, _ => exact ⟨rfl, .inl rfl⟩
  | k + 9, hk => omega
set_option maxRecDepth 20000 in
theorem cf_X6 : CF 5 RX6 TX6 3 tyX6 := by
  refine ⟨rfl, by decide +kernel, tyX6_ok, nmX6, rfl, fun k hk => ?_⟩
  match k, hk with
  | 0, _ => exact ⟨rfl, .inr (.inr (.inr (.inr ⟨_, rfl⟩)))⟩
  | 1, _ => exact ⟨rfl, .inr (.inr (.inr (.inr ⟨_, rfl⟩)))⟩
  | 2, _ => exact ⟨rfl, .inr (.inr (.inr (.inr ⟨_, rfl⟩)))⟩
  | k + 3, hk => omega
set_option maxRecDepth 20000 in
theorem cf_X7 : CF 6 RX7 TX7 5 tyX7 := by
  refine ⟨rfl, by decide +kernel, tyX7_ok, nmX7, rfl, fun k hk => ?_⟩
  match k, hk with
  | 0, _ => exact ⟨rfl, .inr (.inr (.inr (.inr ⟨_, rfl⟩)))⟩
  | 1, _ => exact ⟨rfl, .inl rfl⟩
  | 2, _ => exact ⟨rfl, .inl rfl⟩
  | 3, _ => exact ⟨rfl, .inl rfl⟩
  | 4, _ => exact ⟨rfl, .inl rfl⟩
  | k + 5, hk => omega
set_option maxRecDepth 20000 in
theorem cf_X8 : CF 7 RX8 TX8 9 tyX8 := by
  refine ⟨rfl, by decide +kernel, tyX8_ok, nmX8, rfl, fun k hk => ?_⟩
  match k, hk with
  | 0, _ => exact ⟨rfl, .inr (.inr (.inr (.inr ⟨_, rfl⟩)))⟩
  | 1, _ => exact ⟨rfl, .inr (.inr (.inr (.inr ⟨_, rfl⟩)))⟩
  | 2, _ => exact ⟨rfl, .inr (.inr (.inr (.inr ⟨_, rfl⟩)))⟩
  | 3, _ => exact ⟨rfl, .inr (.inr (.inr (.inr ⟨_, rfl⟩)))⟩
  | 4, _ => exact ⟨rfl, .inr (.inr (.inr (.inr ⟨_, rfl⟩)))⟩
  | 5, _ => exact ⟨rfl, .inr (.inr (.inr (.inr ⟨_, rfl⟩)))⟩
  | 6, _ => exact ⟨rfl, .inr (.inr (.inr (.inr ⟨_, rfl⟩)))⟩
  | 7, _ => exact ⟨rfl, .inr (.inr (.inr (.inr ⟨_, rfl⟩)))⟩
  | 8, _ => exact ⟨rfl, .inr (.inr (.inr (.inr ⟨_, rfl⟩)))⟩
  | k + 9, hk => omega
set_option maxRecDepth 20000 in
theorem cf_X9 : CF 8 RX9 TX9 4 tyX9 := by
  refine ⟨rfl, by decide +kernel, tyX9_ok, nmX9, rfl, fun k hk => ?_⟩
  match k, hk with
  | 0, _ => exact ⟨rfl, .inr (.inr (.inr (.inl ⟨_, rfl⟩)))⟩
  | 1, _ => exact ⟨rfl, .inr (.inr (.inr (.inr ⟨_, rfl⟩)))⟩
  | 2, _ => exact ⟨rfl, .inr (.inr (.inr (.inr ⟨_, rfl⟩)))⟩
  | 3, _ => exact ⟨rfl, .inl rfl⟩
  | k + 4, hk => omega
set_option maxRecDepth 20000 in
theorem cf_X10 : CF 9 RX10 TX10 14 tyX10 := by
  refine ⟨rfl, by decide +kernel, tyX10_ok, nmX10, rfl, fun k hk => ?_⟩
  match k, hk with
  | 0, _ => exact ⟨rfl, .inr (.inr (.inr (.inl ⟨_, rfl⟩)))⟩
  | 1, _ => exact ⟨rfl, .inr (.inr (.inr (.inl ⟨_, rfl⟩)))⟩
  | 2, _ => exact ⟨rfl, .inr (.inr (.inr (.inl ⟨_, rfl⟩)))⟩
  | 3, _ => exact ⟨rfl, .inr (.inl rfl)⟩
  | 4, _ => exact ⟨rfl, .inr (.inr (.inr (.inl ⟨_, rfl⟩)))⟩
  | 5, _ => exact ⟨rfl, .inr (.inr (.inr (.inl ⟨_, rfl⟩)))⟩
  | 6, _ => exact ⟨rfl, .inr (.inr (.inr (.inr ⟨_, rfl⟩)))⟩
  | 7, _ => exact ⟨rfl, .inr (.inr (.inr (.inl ⟨_, rfl⟩)))⟩
  | 8, _ => exact ⟨rfl, .inr (.inr (.inr (.inl ⟨_, rfl⟩)))⟩
  | 9, _ => exact ⟨rfl, .inr (.inr (.inr (.inl ⟨_, rfl⟩)))⟩
  | 10, _ => exact ⟨rfl, .inr (.inr (.inr (.inl ⟨_, rfl⟩)))⟩
  | 11, _ => exact ⟨rfl, .inr (.inr (.inr (.inl ⟨_, rfl⟩)))⟩
  | 12, _ => exact ⟨rfl, .inr (.inr (.inr (.inr ⟨_, rfl⟩)))⟩
  | 13, _ => exact ⟨rfl, .inr (.inr (.inr (.inr ⟨_, rfl⟩)))⟩
  | k + 14, hk => omega
theorem sp0 : shp (0 : Int).toNat = (14, 14) := by decide +kernel
theorem sp1 : shp (1 : Int).toNat = (5, 14) := by decide +kernel
theorem sp2 : shp (2 : Int).toNat = (0, 12) := by decide +kernel
theorem sp3 : shp (3 : Int).toNat = (0, 12) := by decide +kernel
theorem sp4 : shp (4 : Int).toNat = (0, 12) := by decide +kernel
theorem sp5 : shp (5 : Int).toNat = (0, 10) := by decide +kernel
theorem sp6 : shp (6 : Int).toNat = (0, 10) := by decide +kernel
theorem sp7 : shp (7 : Int).toNat = (0, 10) := by decide +kernel
theorem sp8 : shp (8 : Int).toNat = (0, 10) := by decide +kernel
theorem sp9 : shp (9 : Int).toNat = (0, 6) := by decide +kernel
theorem sp10 : shp (10 : Int).toNat = (5, 14) := by decide +kernel
theorem sp11 : shp (11 : Int).toNat = (0, 12) := by decide +kernel
theorem sp12 : shp (12 : Int).toNat = (0, 12) := by decide +kernel
theorem sp13 : shp (13 : Int).toNat = (0, 12) := by decide +kernel
theorem sp14 : shp (14 : Int).toNat = (0, 10) := by decide +kernel
theorem sp15 : shp (15 : Int).toNat = (0, 10) := by decide +kernel
theorem sp16 : shp (16 : Int).toNat = (0, 10) := by decide +kernel
theorem sp17 : shp (17 : Int).toNat = (0, 10) := by decide +kernel
theorem sp18 : shp (18 : Int).toNat = (0, 6) := by decide +kernel
theorem sp19 : shp (19 : Int).toNat = (5, 14) := by decide +kernel
theorem sp20 : shp (20 : Int).toNat = (0, 12) := by decide +kernel
theorem sp21 : shp (21 : Int).toNat = (0, 12) := by decide +kernel
theorem sp22 : shp (22 : Int).toNat = (0, 12) := by decide +kernel
theorem sp23 : shp (23 : Int).toNat = (0, 10) := by decide +kernel
theorem sp24 : shp (24 : Int).toNat = (0, 10) := by decide +kernel
theorem sp25 : shp (25 : Int).toNat = (0, 10) := by decide +kernel
theorem sp26 : shp (26 : Int).toNat = (0, 10) := by decide +kernel
theorem sp27 : shp (27 : Int).toNat = (0, 6) := by decide +kernel
theorem sp28 : shp (28 : Int).toNat = (11, 5) := by decide +kernel
theorem sp29 : shp (29 : Int).toNat = (0, 250) := by decide +kernel
theorem sp30 : shp (30 : Int).toNat = (10, 3) := by decide +kernel
theorem sp31 : shp (31 : Int).toNat = (0, 8) := by decide +kernel
theorem sp32 : shp (32 : Int).toNat = (0, 8) := by decide +kernel
theorem sp33 : shp (33 : Int).toNat = (1, 320) := by decide +kernel
theorem sp34 : shp (34 : Int).toNat = (0, 5) := by decide +kernel
theorem sp35 : shp (35 : Int).toNat = (8, 1) := by decide +kernel
theorem sp36 : shp (36 : Int).toNat = (7, 14) := by decide +kernel
theorem sp37 : shp (37 : Int).toNat = (0, 4) := by decide +kernel
theorem sp38 : shp (38 : Int).toNat = (0, 4) := by decide +kernel
theorem sp39 : shp (39 : Int).toNat = (0, 4) := by decide +kernel
theorem sp40 : shp (40 : Int).toNat = (0, 4) := by decide +kernel
theorem sp41 : shp (41 : Int).toNat = (0, 4) := by decide +kernel
theorem sp42 : shp (42 : Int).toNat = (0, 4) := by decide +kernel
theorem sp43 : shp (43 : Int).toNat = (13, 4) := by decide +kernel
theorem sp44 : shp (44 : Int).toNat = (8, 1) := by decide +kernel
theorem sp45 : shp (45 : Int).toNat = (7, 14) := by decide +kernel
theorem sp46 : shp (46 : Int).toNat = (0, 4) := by decide +kernel
theorem sp47 : shp (47 : Int).toNat = (0, 4) := by decide +kernel
theorem sp48 : shp (48 : Int).toNat = (0, 4) := by decide +kernel
theorem sp49 : shp (49 : Int).toNat = (0, 4) := by decide +kernel
theorem sp50 : shp (50 : Int).toNat = (0, 4) := by decide +kernel
theorem sp51 : shp (51 : Int).toNat = (0, 4) := by decide +kernel
theorem sp52 : shp (52 : Int).toNat = (4, 10) := by decide +kernel
theorem sp53 : shp (53 : Int).toNat = (2, 10) := by decide +kernel
theorem sp54 : shp (54 : Int).toNat = (12, 9) := by decide +kernel
theorem sp55 : shp (55 : Int).toNat = (2, 5) := by decide +kernel
theorem sp56 : shp (56 : Int).toNat = (0, 5) := by decide +kernel
theorem sp57 : shp (57 : Int).toNat = (0, 5) := by decide +kernel
theorem sp58 : shp (58 : Int).toNat = (0, 5) := by decide +kernel
theorem sp59 : shp (59 : Int).toNat = (0, 5) := by decide +kernel
theorem sp60 : shp (60 : Int).toNat = (1, 5) := by decide +kernel
theorem sp61 : shp (61 : Int).toNat = (0, 20) := by decide +kernel
theorem sp62 : shp (62 : Int).toNat = (0, 20) := by decide +kernel
theorem sp63 : shp (63 : Int).toNat = (0, 20) := by decide +kernel
theorem sp64 : shp (64 : Int).toNat = (12, 9) := by decide +kernel
theorem sp65 : shp (65 : Int).toNat = (2, 5) := by decide +kernel
theorem sp66 : shp (66 : Int).toNat = (0, 5) := by decide +kernel
theorem sp67 : shp (67 : Int).toNat = (0, 5) := by decide +kernel
theorem sp68 : shp (68 : Int).toNat = (0, 5) := by decide +kernel
theorem sp69 : shp (69 : Int).toNat = (0, 5) := by decide +kernel
theorem sp70 : shp (70 : Int).toNat = (1, 5) := by decide +kernel
theorem sp71 : shp (71 : Int).toNat = (0, 20) := by decide +kernel
theorem sp72 : shp (72 : Int).toNat = (0, 20) := by decide +kernel
theorem sp73 : shp (73 : Int).toNat = (0, 20) := by decide +kernel
theorem sp74 : shp (74 : Int).toNat = (12, 9) := by decide +kernel
theorem sp75 : shp (75 : Int).toNat = (2, 5) := by decide +kernel
theorem sp76 : shp (76 : Int).toNat = (0, 5) := by decide +kernel
theorem sp77 : shp (77 : Int).toNat = (0, 5) := by decide +kernel
theorem sp78 : shp (78 : Int).toNat = (0, 5) := by decide +kernel
theorem sp79 : shp (79 : Int).toNat = (0, 5) := by decide +kernel
theorem sp80 : shp (80 : Int).toNat = (1, 5) := by decide +kernel
theorem sp81 : shp (81 : Int).toNat = (0, 20) := by decide +kernel
theorem sp82 : shp (82 : Int).toNat = (0, 20) := by decide +kernel
theorem sp83 : shp (83 : Int).toNat = (0, 20) := by decide +kernel
theorem sp84 : shp (84 : Int).toNat = (12, 9) := by decide +kernel
theorem sp85 : shp (85 : Int).toNat = (2, 5) := by decide +kernel
theorem sp86 : shp (86 : Int).toNat = (0, 5) := by decide +kernel
theorem sp87 : shp (87 : Int).toNat = (0, 5) := by decide +kernel
theorem sp88 : shp (88 : Int).toNat = (0, 5) := by decide +kernel
theorem sp89 : shp (89 : Int).toNat = (0, 5) := by decide +kernel
theorem sp90 : shp (90 : Int).toNat = (1, 5) := by decide +kernel
theorem sp91 : shp (91 : Int).toNat = (0, 20) := by decide +kernel
theorem sp92 : shp (92 : Int).toNat = (0, 20) := by decide +kernel
theorem sp93 : shp (93 : Int).toNat = (0, 20) := by decide +kernel
theorem sp94 : shp (94 : Int).toNat = (12, 9) := by decide +kernel
theorem sp95 : shp (95 : Int).toNat = (2, 5) := by decide +kernel
theorem sp96 : shp (96 : Int).toNat = (0, 5) := by decide +kernel
theorem sp97 : shp (97 : Int).toNat = (0, 5) := by decide +kernel
theorem sp98 : shp (98 : Int).toNat = (0, 5) := by decide +kernel
theorem sp99 : shp (99 : Int).toNat = (0, 5) := by decide +kernel
theorem sp100 : shp (100 : Int).toNat = (1, 5) := by decide +kernel
theorem sp101 : shp (101 : Int).toNat = (0, 20) := by decide +kernel
theorem sp102 : shp (102 : Int).toNat = (0, 20) := by decide +kernel
theorem sp103 : shp (103 : Int).toNat = (0, 20) := by decide +kernel
theorem sp104 : shp (104 : Int).toNat = (12, 9) := by decide +kernel
theorem sp105 : shp (105 : Int).toNat = (2, 5) := by decide +kernel
theorem sp106 : shp (106 : Int).toNat = (0, 5) := by decide +kernel
theorem sp107 : shp (107 : Int).toNat = (0, 5) := by decide +kernel
theorem sp108 : shp (108 : Int).toNat = (0, 5) := by decide +kernel
theorem sp109 : shp (109 : Int).toNat = (0, 5) := by decide +kernel
theorem sp110 : shp (110 : Int).toNat = (1, 5) := by decide +kernel
theorem sp111 : shp (111 : Int).toNat = (0, 20) := by decide +kernel
theorem sp112 : shp (112 : Int).toNat = (0, 20) := by decide +kernel
theorem sp113 : shp (113 : Int).toNat = (0, 20) := by decide +kernel
theorem sp114 : shp (114 : Int).toNat = (12, 9) := by decide +kernel
theorem sp115 : shp (115 : Int).toNat = (2, 5) := by decide +kernel
theorem sp116 : shp (116 : Int).toNat = (0, 5) := by decide +kernel
theorem sp117 : shp (117 : Int).toNat = (0, 5) := by decide +kernel
theorem sp118 : shp (118 : Int).toNat = (0, 5) := by decide +kernel
theorem sp119 : shp (119 : Int).toNat = (0, 5) := by decide +kernel
theorem sp120 : shp (120 : Int).toNat = (1, 5) := by decide +kernel
theorem sp121 : shp (121 : Int).toNat = (0, 20) := by decide +kernel
theorem sp122 : shp (122 : Int).toNat = (0, 20) := by decide +kernel
theorem sp123 : shp (123 : Int).toNat = (0, 20) := by decide +kernel
theorem sp124 : shp (124 : Int).toNat = (12, 9) := by decide +kernel
theorem sp125 : shp (125 : Int).toNat = (2, 5) := by decide +kernel
theorem sp126 : shp (126 : Int).toNat = (0, 5) := by decide +kernel
theorem sp127 : shp (127 : Int).toNat = (0, 5) := by decide +kernel
theorem sp128 : shp (128 : Int).toNat = (0, 5) := by decide +kernel
theorem sp129 : shp (129 : Int).toNat = (0, 5) := by decide +kernel
theorem sp130 : shp (130 : Int).toNat = (1, 5) := by decide +kernel
theorem sp131 : shp (131 : Int).toNat = (0, 20) := by decide +kernel
theorem sp132 : shp (132 : Int).toNat = (0, 20) := by decide +kernel
theorem sp133 : shp (133 : Int).toNat = (0, 20) := by decide +kernel
theorem sp134 : shp (134 : Int).toNat = (12, 9) := by decide +kernel
theorem sp135 : shp (135 : Int).toNat = (2, 5) := by decide +kernel
theorem sp136 : shp (136 : Int).toNat = (0, 5) := by decide +kernel
theorem sp137 : shp (137 : Int).toNat = (0, 5) := by decide +kernel
theorem sp138 : shp (138 : Int).toNat = (0, 5) := by decide +kernel
theorem sp139 : shp (139 : Int).toNat = (0, 5) := by decide +kernel
theorem sp140 : shp (140 : Int).toNat = (1, 5) := by decide +kernel
theorem sp141 : shp (141 : Int).toNat = (0, 20) := by decide +kernel
theorem sp142 : shp (142 : Int).toNat = (0, 20) := by decide +kernel
theorem sp143 : shp (143 : Int).toNat = (0, 20) := by decide +kernel
theorem sp144 : shp (144 : Int).toNat = (12, 9) := by decide +kernel
theorem sp145 : shp (145 : Int).toNat = (2, 5) := by decide +kernel
theorem sp146 : shp (146 : Int).toNat = (0, 5) := by decide +kernel
theorem sp147 : shp (147 : Int).toNat = (0, 5) := by decide +kernel
theorem sp148 : shp (148 : Int).toNat = (0, 5) := by decide +kernel
theorem sp149 : shp (149 : Int).toNat = (0, 5) := by decide +kernel
theorem sp150 : shp (150 : Int).toNat = (1, 5) := by decide +kernel
theorem sp151 : shp (151 : Int).toNat = (0, 20) := by decide +kernel
theorem sp152 : shp (152 : Int).toNat = (0, 20) := by decide +kernel
theorem sp153 : shp (153 : Int).toNat = (0, 20) := by decide +kernel
theorem sp154 : shp (154 : Int).toNat = (12, 9) := by decide +kernel
theorem sp155 : shp (155 : Int).toNat = (2, 5) := by decide +kernel
theorem sp156 : shp (156 : Int).toNat = (0, 5) := by decide +kernel
theorem sp157 : shp (157 : Int).toNat = (0, 5) := by decide +kernel
theorem sp158 : shp (158 : Int).toNat = (0, 5) := by decide +kernel
theorem sp159 : shp (159 : Int).toNat = (0, 5) := by decide +kernel
theorem sp160 : shp (160 : Int).toNat = (1, 5) := by decide +kernel
theorem sp161 : shp (161 : Int).toNat = (0, 20) := by decide +kernel
theorem sp162 : shp (162 : Int).toNat = (0, 20) := by decide +kernel
theorem sp163 : shp (163 : Int).toNat = (0, 20) := by decide +kernel
theorem sp164 : shp (164 : Int).toNat = (6, 10) := by decide +kernel
theorem sp165 : shp (165 : Int).toNat = (0, 200) := by decide +kernel
theorem sp166 : shp (166 : Int).toNat = (0, 200) := by decide +kernel
theorem sp167 : shp (167 : Int).toNat = (0, 200) := by decide +kernel
theorem sp168 : shp (168 : Int).toNat = (0, 200) := by decide +kernel
theorem sp169 : shp (169 : Int).toNat = (0, 200) := by decide +kernel
theorem sp170 : shp (170 : Int).toNat = (0, 200) := by decide +kernel
theorem sp171 : shp (171 : Int).toNat = (9, 9) := by decide +kernel
theorem sp172 : shp (172 : Int).toNat = (0, 288) := by decide +kernel
theorem sp173 : shp (173 : Int).toNat = (1, 6) := by decide +kernel
theorem sp174 : shp (174 : Int).toNat = (1, 9) := by decide +kernel
theorem sp175 : shp (175 : Int).toNat = (0, 10) := by decide +kernel
theorem sp176 : shp (176 : Int).toNat = (0, 10) := by decide +kernel
theorem sp177 : shp (177 : Int).toNat = (0, 90) := by decide +kernel
theorem sp178 : shp (178 : Int).toNat = (0, 54) := by decide +kernel
theorem sp179 : shp (179 : Int).toNat = (0, 48) := by decide +kernel
theorem sp180 : shp (180 : Int).toNat = (0, 48) := by decide +kernel
theorem rp1_0 (σ : Mem) : fv rho σ 1 0 2 = 2 := by show rho 1 0 = 2; decide +kernel
theorem rp1_1 (σ : Mem) : fv rho σ 1 1 2 = 3 := by show rho 1 1 = 3; decide +kernel
theorem rp1_2 (σ : Mem) : fv rho σ 1 2 2 = 4 := by show rho 1 2 = 4; decide +kernel
theorem rp1_3 (σ : Mem) : fv rho σ 1 3 2 = 5 := by show rho 1 3 = 5; decide +kernel
theorem rp1_4 (σ : Mem) : fv rho σ 1 4 2 = 6 := by show rho 1 4 = 6; decide +kernel
theorem rp1_5 (σ : Mem) : fv rho σ 1 5 2 = 7 := by show rho 1 5 = 7; decide +kernel
theorem rp1_6 (σ : Mem) : fv rho σ 1 6 2 = 8 := by show rho 1 6 = 8; decide +kernel
theorem rp1_7 (σ : Mem) : fv rho σ 1 7 2 = 9 := by show rho 1 7 = 9; decide +kernel
theorem rp0_0 (σ : Mem) : fv rho σ 0 0 2 = 1 := by show rho 0 0 = 1; decide +kernel
theorem rp10_0 (σ : Mem) : fv rho σ 10 0 2 = 11 := by show rho 10 0 = 11; decide +kernel
theorem rp10_1 (σ : Mem) : fv rho σ 10 1 2 = 12 := by show rho 10 1 = 12; decide +kernel
theorem rp10_2 (σ : Mem) : fv rho σ 10 2 2 = 13 := by show rho 10 2 = 13; decide +kernel
theorem rp10_3 (σ : Mem) : fv rho σ 10 3 2 = 14 := by show rho 10 3 = 14; decide +kernel
theorem rp10_4 (σ : Mem) : fv rho σ 10 4 2 = 15 := by show rho 10 4 = 15; decide +kernel
theorem rp10_5 (σ : Mem) : fv rho σ 10 5 2 = 16 := by show rho 10 5 = 16; decide +kernel
theorem rp10_6 (σ : Mem) : fv rho σ 10 6 2 = 17 := by show rho 10 6 = 17; decide +kernel
theorem rp10_7 (σ : Mem) : fv rho σ 10 7 2 = 18 := by show rho 10 7 = 18; decide +kernel
theorem rp0_1 (σ : Mem) : fv rho σ 0 1 2 = 10 := by show rho 0 1 = 10; decide +kernel
theorem rp19_0 (σ : Mem) : fv rho σ 19 0 2 = 20 := by show rho 19 0 = 20; decide +kernel
theorem rp19_1 (σ : Mem) : fv rho σ 19 1 2 = 21 := by show rho 19 1 = 21; decide +kernel
theorem rp19_2 (σ : Mem) : fv rho σ 19 2 2 = 22 := by show rho 19 2 = 22; decide +kernel
theorem rp19_3 (σ : Mem) : fv rho σ 19 3 2 = 23 := by show rho 19 3 = 23; decide +kernel
theorem rp19_4 (σ : Mem) : fv rho σ 19 4 2 = 24 := by show rho 19 4 = 24; decide +kernel
theorem rp19_5 (σ : Mem) : fv rho σ 19 5 2 = 25 := by show rho 19 5 = 25; decide +kernel
theorem rp19_6 (σ : Mem) : fv rho σ 19 6 2 = 26 := by show rho 19 6 = 26; decide +kernel
theorem rp19_7 (σ : Mem) : fv rho σ 19 7 2 = 27 := by show rho 19 7 = 27; decide +kernel
theorem rp0_2 (σ : Mem) : fv rho σ 0 2 2 = 19 := by show rho 0 2 = 19; decide +kernel
theorem rp28_0 (σ : Mem) : fv rho σ 28 0 2 = 29 := by show rho 28 0 = 29; decide +kernel
theorem rp0_4 (σ : Mem) : fv rho σ 0 4 2 = 28 := by show rho 0 4 = 28; decide +kernel
theorem rp30_0 (σ : Mem) : fv rho σ 30 0 2 = 31 := by show rho 30 0 = 31; decide +kernel
theorem rp30_1 (σ : Mem) : fv rho σ 30 1 2 = 32 := by show rho 30 1 = 32; decide +kernel
theorem rp30_2 (σ : Mem) : fv rho σ 30 2 2 = 33 := by show rho 30 2 = 33; decide +kernel
theorem rp0_5 (σ : Mem) : fv rho σ 0 5 2 = 30 := by show rho 0 5 = 30; decide +kernel
theorem rp0_6 (σ : Mem) : fv rho σ 0 6 2 = 34 := by show rho 0 6 = 34; decide +kernel
theorem rp36_0 (σ : Mem) : fv rho σ 36 0 2 = 37 := by show rho 36 0 = 37; decide +kernel
theorem rp36_1 (σ : Mem) : fv rho σ 36 1 2 = 38 := by show rho 36 1 = 38; decide +kernel
theorem rp36_2 (σ : Mem) : fv rho σ 36 2 2 = 39 := by show rho 36 2 = 39; decide +kernel
theorem rp36_3 (σ : Mem) : fv rho σ 36 3 2 = 40 := by show rho 36 3 = 40; decide +kernel
theorem rp36_4 (σ : Mem) : fv rho σ 36 4 2 = 41 := by show rho 36 4 = 41; decide +kernel
theorem rp36_5 (σ : Mem) : fv rho σ 36 5 2 = 42 := by show rho 36 5 = 42; decide +kernel
theorem rp35_0 (σ : Mem) : fv rho σ 35 0 2 = 36 := by show rho 35 0 = 36; decide +kernel
theorem rp0_7 (σ : Mem) : fv rho σ 0 7 2 = 35 := by show rho 0 7 = 35; decide +kernel
theorem rp45_0 (σ : Mem) : fv rho σ 45 0 2 = 46 := by show rho 45 0 = 46; decide +kernel
theorem rp45_1 (σ : Mem) : fv rho σ 45 1 2 = 47 := by show rho 45 1 = 47; decide +kernel
theorem rp45_2 (σ : Mem) : fv rho σ 45 2 2 = 48 := by show rho 45 2 = 48; decide +kernel
theorem rp45_3 (σ : Mem) : fv rho σ 45 3 2 = 49 := by show rho 45 3 = 49; decide +kernel
theorem rp45_4 (σ : Mem) : fv rho σ 45 4 2 = 50 := by show rho 45 4 = 50; decide +kernel
theorem rp45_5 (σ : Mem) : fv rho σ 45 5 2 = 51 := by show rho 45 5 = 51; decide +kernel
theorem rp44_0 (σ : Mem) : fv rho σ 44 0 2 = 45 := by show rho 44 0 = 45; decide +kernel
theorem rp43_0 (σ : Mem) : fv rho σ 43 0 2 = 44 := by show rho 43 0 = 44; decide +kernel
theorem rp43_1 (σ : Mem) : fv rho σ 43 1 2 = 52 := by show rho 43 1 = 52; decide +kernel
theorem rp43_2 (σ : Mem) : fv rho σ 43 2 2 = 53 := by show rho 43 2 = 53; decide +kernel
theorem rp54_0 (σ : Mem) : fv rho σ 54 0 2 = 55 := by show rho 54 0 = 55; decide +kernel
theorem rp54_1 (σ : Mem) : fv rho σ 54 1 2 = 56 := by show rho 54 1 = 56; decide +kernel
theorem rp54_2 (σ : Mem) : fv rho σ 54 2 2 = 57 := by show rho 54 2 = 57; decide +kernel
theorem rp54_3 (σ : Mem) : fv rho σ 54 3 2 = 58 := by show rho 54 3 = 58; decide +kernel
theorem rp54_4 (σ : Mem) : fv rho σ 54 4 2 = 59 := by show rho 54 4 = 59; decide +kernel
theorem rp54_5 (σ : Mem) : fv rho σ 54 5 2 = 60 := by show rho 54 5 = 60; decide +kernel
theorem rp54_6 (σ : Mem) : fv rho σ 54 6 2 = 61 := by show rho 54 6 = 61; decide +kernel
theorem rp54_7 (σ : Mem) : fv rho σ 54 7 2 = 62 := by show rho 54 7 = 62; decide +kernel
theorem rp54_8 (σ : Mem) : fv rho σ 54 8 2 = 63 := by show rho 54 8 = 63; decide +kernel
theorem rp64_0 (σ : Mem) : fv rho σ 64 0 2 = 65 := by show rho 64 0 = 65; decide +kernel
theorem rp64_1 (σ : Mem) : fv rho σ 64 1 2 = 66 := by show rho 64 1 = 66; decide +kernel
theorem rp64_2 (σ : Mem) : fv rho σ 64 2 2 = 67 := by show rho 64 2 = 67; decide +kernel
theorem rp64_3 (σ : Mem) : fv rho σ 64 3 2 = 68 := by show rho 64 3 = 68; decide +kernel
theorem rp64_4 (σ : Mem) : fv rho σ 64 4 2 = 69 := by show rho 64 4 = 69; decide +kernel
theorem rp64_5 (σ : Mem) : fv rho σ 64 5 2 = 70 := by show rho 64 5 = 70; decide +kernel
theorem rp64_6 (σ : Mem) : fv rho σ 64 6 2 = 71 := by show rho 64 6 = 71; decide +kernel
theorem rp64_7 (σ : Mem) : fv rho σ 64 7 2 = 72 := by show rho 64 7 = 72; decide +kernel
theorem rp64_8 (σ : Mem) : fv rho σ 64 8 2 = 73 := by show rho 64 8 = 73; decide +kernel
theorem rp74_0 (σ : Mem) : fv rho σ 74 0 2 = 75 := by show rho 74 0 = 75; decide +kernel
theorem rp74_1 (σ : Mem) : fv rho σ 74 1 2 = 76 := by show rho 74 1 = 76; decide +kernel
theorem rp74_2 (σ : Mem) : fv rho σ 74 2 2 = 77 := by show rho 74 2 = 77; decide +kernel
theorem rp74_3 (σ : Mem) : fv rho σ 74 3 2 = 78 := by show rho 74 3 = 78; decide +kernel
theorem rp74_4 (σ : Mem) : fv rho σ 74 4 2 = 79 := by show rho 74 4 = 79; decide +kernel
theorem rp74_5 (σ : Mem) : fv rho σ 74 5 2 = 80 := by show rho 74 5 = 80; decide +kernel
theorem rp74_6 (σ : Mem) : fv rho σ 74 6 2 = 81 := by show rho 74 6 = 81; decide +kernel
theorem rp74_7 (σ : Mem) : fv rho σ 74 7 2 = 82 := by show rho 74 7 = 82; decide +kernel
theorem rp74_8 (σ : Mem) : fv rho σ 74 8 2 = 83 := by show rho 74 8 = 83; decide +kernel
theorem rp84_0 (σ : Mem) : fv rho σ 84 0 2 = 85 := by show rho 84 0 = 85; decide +kernel
theorem rp84_1 (σ : Mem) : fv rho σ 84 1 2 = 86 := by show rho 84 1 = 86; decide +kernel
theorem rp84_2 (σ : Mem) : fv rho σ 84 2 2 = 87 := by show rho 84 2 = 87; decide +kernel
theorem rp84_3 (σ : Mem) : fv rho σ 84 3 2 = 88 := by show rho 84 3 = 88; decide +kernel
theorem rp84_4 (σ : Mem) : fv rho σ 84 4 2 = 89 := by show rho 84 4 = 89; decide +kernel
theorem rp84_5 (σ : Mem) : fv rho σ 84 5 2 = 90 := by show rho 84 5 = 90; decide +kernel
theorem rp84_6 (σ : Mem) : fv rho σ 84 6 2 = 91 := by show rho 84 6 = 91; decide +kernel
theorem rp84_7 (σ : Mem) : fv rho σ 84 7 2 = 92 := by show rho 84 7 = 92; decide +kernel
theorem rp84_8 (σ : Mem) : fv rho σ 84 8 2 = 93 := by show rho 84 8 = 93; decide +kernel
theorem rp94_0 (σ : Mem) : fv rho σ 94 0 2 = 95 := by show rho 94 0 = 95; decide +kernel
theorem rp94_1 (σ : Mem) : fv rho σ 94 1 2 = 96 := by show rho 94 1 = 96; decide +kernel
theorem rp94_2 (σ : Mem) : fv rho σ 94 2 2 = 97 := by show rho 94 2 = 97; decide +kernel
theorem rp94_3 (σ : Mem) : fv rho σ 94 3 2 = 98 := by show rho 94 3 = 98; decide +kernel
theorem rp94_4 (σ : Mem) : fv rho σ 94 4 2 = 99 := by show rho 94 4 = 99; decide +kernel
theorem rp94_5 (σ : Mem) : fv rho σ 94 5 2 = 100 := by show rho 94 5 = 100; decide +kernel
theorem rp94_6 (σ : Mem) : fv rho σ 94 6 2 = 101 := by show rho 94 6 = 101; decide +kernel
theorem rp94_7 (σ : Mem) : fv rho σ 94 7 2 = 102 := by show rho 94 7 = 102; decide +kernel
theorem rp94_8 (σ : Mem) : fv rho σ 94 8 2 = 103 := by show rho 94 8 = 103; decide +kernel
theorem rp104_0 (σ : Mem) : fv rho σ 104 0 2 = 105 := by show rho 104 0 = 105; decide +kernel
theorem rp104_1 (σ : Mem) : fv rho σ 104 1 2 = 106 := by show rho 104 1 = 106; decide +kernel
theorem rp104_2 (σ : Mem) : fv rho σ 104 2 2 = 107 := by show rho 104 2 = 107; decide +kernel
theorem rp104_3 (σ : Mem) : fv rho σ 104 3 2 = 108 := by show rho 104 3 = 108; decide +kernel
theorem rp104_4 (σ : Mem) : fv rho σ 104 4 2 = 109 := by show rho 104 4 = 109; decide +kernel
theorem rp104_5 (σ : Mem) : fv rho σ 104 5 2 = 110 := by show rho 104 5 = 110; decide +kernel
theorem rp104_6 (σ : Mem) : fv rho σ 104 6 2 = 111 := by show rho 104 6 = 111; decide +kernel
theorem rp104_7 (σ : Mem) : fv rho σ 104 7 2 = 112 := by show rho 104 7 = 112; decide +kernel
theorem rp104_8 (σ : Mem) : fv rho σ 104 8 2 = 113 := by show rho 104 8 = 113; decide +kernel
theorem rp114_0 (σ : Mem) : fv rho σ 114 0 2 = 115 := by show rho 114 0 = 115; decide +kernel
theorem rp114_1 (σ : Mem) : fv rho σ 114 1 2 = 116 := by show rho 114 1 = 116; decide +kernel
theorem rp114_2 (σ : Mem) : fv rho σ 114 2 2 = 117 := by show rho 114 2 = 117; decide +kernel
theorem rp114_3 (σ : Mem) : fv rho σ 114 3 2 = 118 := by show rho 114 3 = 118; decide +kernel
theorem rp114_4 (σ : Mem) : fv rho σ 114 4 2 = 119 := by show rho 114 4 = 119; decide +kernel
theorem rp114_5 (σ : Mem) : fv rho σ 114 5 2 = 120 := by show rho 114 5 = 120; decide +kernel
theorem rp114_6 (σ : Mem) : fv rho σ 114 6 2 = 121 := by show rho 114 6 = 121; decide +kernel
theorem rp114_7 (σ : Mem) : fv rho σ 114 7 2 = 122 := by show rho 114 7 = 122; decide +kernel
theorem rp114_8 (σ : Mem) : fv rho σ 114 8 2 = 123 := by show rho 114 8 = 123; decide +kernel
theorem rp124_0 (σ : Mem) : fv rho σ 124 0 2 = 125 := by show rho 124 0 = 125; decide +kernel
theorem rp124_1 (σ : Mem) : fv rho σ 124 1 2 = 126 := by show rho 124 1 = 126; decide +kernel
theorem rp124_2 (σ : Mem) : fv rho σ 124 2 2 = 127 := by show rho 124 2 = 127; decide +kernel
theorem rp124_3 (σ : Mem) : fv rho σ 124 3 2 = 128 := by show rho 124 3 = 128; decide +kernel
theorem rp124_4 (σ : Mem) : fv rho σ 124 4 2 = 129 := by show rho 124 4 = 129; decide +kernel
theorem rp124_5 (σ : Mem) : fv rho σ 124 5 2 = 130 := by show rho 124 5 = 130; decide +kernel
theorem rp124_6 (σ : Mem) : fv rho σ 124 6 2 = 131 := by show rho 124 6 = 131; decide +kernel
theorem rp124_7 (σ : Mem) : fv rho σ 124 7 2 = 132 := by show rho 124 7 = 132; decide +kernel
theorem rp124_8 (σ : Mem) : fv rho σ 124 8 2 = 133 := by show rho 124 8 = 133; decide +kernel
theorem rp134_0 (σ : Mem) : fv rho σ 134 0 2 = 135 := by show rho 134 0 = 135; decide +kernel
theorem rp134_1 (σ : Mem) : fv rho σ 134 1 2 = 136 := by show rho 134 1 = 136; decide +kernel
theorem rp134_2 (σ : Mem) : fv rho σ 134 2 2 = 137 := by show rho 134 2 = 137; decide +kernel
theorem rp134_3 (σ : Mem) : fv rho σ 134 3 2 = 138 := by show rho 134 3 = 138; decide +kernel
theorem rp134_4 (σ : Mem) : fv rho σ 134 4 2 = 139 := by show rho 134 4 = 139; decide +kernel
theorem rp134_5 (σ : Mem) : fv rho σ 134 5 2 = 140 := by show rho 134 5 = 140; decide +kernel
theorem rp134_6 (σ : Mem) : fv rho σ 134 6 2 = 141 := by show rho 134 6 = 141; decide +kernel
theorem rp134_7 (σ : Mem) : fv rho σ 134 7 2 = 142 := by show rho 134 7 = 142; decide +kernel
theorem rp134_8 (σ : Mem) : fv rho σ 134 8 2 = 143 := by show rho 134 8 = 143; decide +kernel
theorem rp144_0 (σ : Mem) : fv rho σ 144 0 2 = 145 := by show rho 144 0 = 145; decide +kernel
theorem rp144_1 (σ : Mem) : fv rho σ 144 1 2 = 146 := by show rho 144 1 = 146; decide +kernel
theorem rp144_2 (σ : Mem) : fv rho σ 144 2 2 = 147 := by show rho 144 2 = 147; decide +kernel
theorem rp144_3 (σ : Mem) : fv rho σ 144 3 2 = 148 := by show rho 144 3 = 148; decide +kernel
theorem rp144_4 (σ : Mem) : fv rho σ 144 4 2 = 149 := by show rho 144 4 = 149; decide +kernel
theorem rp144_5 (σ : Mem) : fv rho σ 144 5 2 = 150 := by show rho 144 5 = 150; decide +kernel
theorem rp144_6 (σ : Mem) : fv rho σ 144 6 2 = 151 := by show rho 144 6 = 151; decide +kernel
theorem rp144_7 (σ : Mem) : fv rho σ 144 7 2 = 152 := by show rho 144 7 = 152; decide +kernel
theorem rp144_8 (σ : Mem) : fv rho σ 144 8 2 = 153 := by show rho 144 8 = 153; decide +kernel
theorem rp0_8 (σ : Mem) : fv rho σ 0 8 2 = 43 := by show rho 0 8 = 43; decide +kernel
theorem rp154_0 (σ : Mem) : fv rho σ 154 0 2 = 155 := by show rho 154 0 = 155; decide +kernel
theorem rp154_1 (σ : Mem) : fv rho σ 154 1 2 = 156 := by show rho 154 1 = 156; decide +kernel
theorem rp154_2 (σ : Mem) : fv rho σ 154 2 2 = 157 := by show rho 154 2 = 157; decide +kernel
theorem rp154_3 (σ : Mem) : fv rho σ 154 3 2 = 158 := by show rho 154 3 = 158; decide +kernel
theorem rp154_4 (σ : Mem) : fv rho σ 154 4 2 = 159 := by show rho 154 4 = 159; decide +kernel
theorem rp154_5 (σ : Mem) : fv rho σ 154 5 2 = 160 := by show rho 154 5 = 160; decide +kernel
theorem rp154_6 (σ : Mem) : fv rho σ 154 6 2 = 161 := by show rho 154 6 = 161; decide +kernel
theorem rp154_7 (σ : Mem) : fv rho σ 154 7 2 = 162 := by show rho 154 7 = 162; decide +kernel
theorem rp154_8 (σ : Mem) : fv rho σ 154 8 2 = 163 := by show rho 154 8 = 163; decide +kernel
theorem rp0_9 (σ : Mem) : fv rho σ 0 9 2 = 154 := by show rho 0 9 = 154; decide +kernel
theorem rp164_0 (σ : Mem) : fv rho σ 164 0 2 = 165 := by show rho 164 0 = 165; decide +kernel
theorem rp164_1 (σ : Mem) : fv rho σ 164 1 2 = 166 := by show rho 164 1 = 166; decide +kernel
theorem rp164_2 (σ : Mem) : fv rho σ 164 2 2 = 167 := by show rho 164 2 = 167; decide +kernel
theorem rp164_3 (σ : Mem) : fv rho σ 164 3 2 = 168 := by show rho 164 3 = 168; decide +kernel
theorem rp164_4 (σ : Mem) : fv rho σ 164 4 2 = 169 := by show rho 164 4 = 169; decide +kernel
theorem rp164_5 (σ : Mem) : fv rho σ 164 5 2 = 170 := by show rho 164 5 = 170; decide +kernel
theorem rp0_10 (σ : Mem) : fv rho σ 0 10 2 = 164 := by show rho 0 10 = 164; decide +kernel
theorem rp171_0 (σ : Mem) : fv rho σ 171 0 2 = 172 := by show rho 171 0 = 172; decide +kernel
theorem rp171_1 (σ : Mem) : fv rho σ 171 1 2 = 173 := by show rho 171 1 = 173; decide +kernel
theorem rp171_2 (σ : Mem) : fv rho σ 171 2 2 = 174 := by show rho 171 2 = 174; decide +kernel
theorem rp171_3 (σ : Mem) : fv rho σ 171 3 2 = 175 := by show rho 171 3 = 175; decide +kernel
theorem rp171_4 (σ : Mem) : fv rho σ 171 4 2 = 176 := by show rho 171 4 = 176; decide +kernel
theorem rp171_5 (σ : Mem) : fv rho σ 171 5 2 = 177 := by show rho 171 5 = 177; decide +kernel
theorem rp171_6 (σ : Mem) : fv rho σ 171 6 2 = 178 := by show rho 171 6 = 178; decide +kernel
theorem rp0_11 (σ : Mem) : fv rho σ 0 11 2 = 171 := by show rho 0 11 = 171; decide +kernel
theorem rp0_12 (σ : Mem) : fv rho σ 0 12 2 = 179 := by show rho 0 12 = 179; decide +kernel
theorem rp0_13 (σ : Mem) : fv rho σ 0 13 2 = 180 := by show rho 0 13 = 180; decide +kernel
def isB (b : Int) : Prop := b = 1 ∨ b = 10 ∨ b = 19
def isW (w : Int) : Prop := ∃ c : Int, 0 ≤ c ∧ c ≤ 10 ∧ w = 54 + 10 * c
def isA (a : Int) : Prop := a = 40 ∨ a = 49 ∨ a = 41 ∨ a = 50
theorem hB1 : isB 1 := by unfold isB; omega
theorem hB10 : isB 10 := by unfold isB; omega
theorem hB19 : isB 19 := by unfold isB; omega
theorem hA40 : isA 40 := by unfold isA; omega
theorem hA49 : isA 49 := by unfold isA; omega
theorem hA41 : isA 41 := by unfold isA; omega
theorem hA50 : isA 50 := by unfold isA; omega
theorem hW154 : isW 154 := ⟨10, by omega, by omega, by omega⟩
theorem isW_at {c : Int} (h : 0 ≤ c ∧ c < ((10 : Nat) : Int)) : isW (54 + 10 * c) := ⟨c, h.1, by omega, rfl⟩
theorem rho52 {c : Int} (h : 0 ≤ c ∧ c < ((10 : Nat) : Int)) : rho 52 c = 54 + 10 * c := by
  obtain ⟨k, rfl⟩ := Int.eq_ofNat_of_zero_le h.1
  have hk : k < 10 := by omega
  exact (by decide +kernel : ∀ k : Nat, k < 10 → rho 52 (k : Int) = 54 + 10 * (k : Int)) k hk
theorem pB {b : Int} (h : isB b) : 0 ≤ b ∧ b < ((181 : Nat) : Int) := by rcases h with rfl | rfl | rfl <;> decide
theorem sB {b : Int} (h : isB b) : shp b.toNat = (5, 14) := by rcases h with rfl | rfl | rfl <;> decide +kernel
theorem pB0 {b : Int} (h : isB b) : 0 ≤ b + 1 ∧ b + 1 < ((181 : Nat) : Int) := by rcases h with rfl | rfl | rfl <;> decide
theorem sB0 {b : Int} (h : isB b) : shp (b + 1).toNat = (0, 12) := by rcases h with rfl | rfl | rfl <;> decide +kernel
theorem rB0 (σ : Mem) {b : Int} (h : isB b) : fv rho σ b 0 2 = b + 1 := by show rho b 0 = b + 1; rcases h with rfl | rfl | rfl <;> decide +kernel
theorem pB1 {b : Int} (h : isB b) : 0 ≤ b + 2 ∧ b + 2 < ((181 : Nat) : Int) := by rcases h with rfl | rfl | rfl <;> decide
theorem sB1 {b : Int} (h : isB b) : shp (b + 2).toNat = (0, 12) := by rcases h with rfl | rfl | rfl <;> decide +kernel
theorem rB1 (σ : Mem) {b : Int} (h : isB b) : fv rho σ b 1 2 = b + 2 := by show rho b 1 = b + 2; rcases h with rfl | rfl | rfl <;> decide +kernel
theorem pB2 {b : Int} (h : isB b) : 0 ≤ b + 3 ∧ b + 3 < ((181 : Nat) : Int) := by rcases h with rfl | rfl | rfl <;> decide
theorem sB2 {b : Int} (h : isB b) : shp (b + 3).toNat = (0, 12) := by rcases h with rfl | rfl | rfl <;> decide +kernel
theorem rB2 (σ : Mem) {b : Int} (h : isB b) : fv rho σ b 2 2 = b + 3 := by show rho b 2 = b + 3; rcases h with rfl | rfl | rfl <;> decide +kernel
theorem pB3 {b : Int} (h : isB b) : 0 ≤ b + 4 ∧ b + 4 < ((181 : Nat) : Int) := by rcases h with rfl | rfl | rfl <;> decide
theorem sB3 {b : Int} (h : isB b) : shp (b + 4).toNat = (0, 10) := by rcases h with rfl | rfl | rfl <;> decide +kernel
theorem rB3 (σ : Mem) {b : Int} (h : isB b) : fv rho σ b 3 2 = b + 4 := by show rho b 3 = b + 4; rcases h with rfl | rfl | rfl <;> decide +kernel
theorem pB4 {b : Int} (h : isB b) : 0 ≤ b + 5 ∧ b + 5 < ((181 : Nat) : Int) := by rcases h with rfl | rfl | rfl <;> decide
theorem sB4 {b : Int} (h : isB b) : shp (b + 5).toNat = (0, 10) := by rcases h with rfl | rfl | rfl <;> decide +kernel
theorem rB4 (σ : Mem) {b : Int} (h : isB b) : fv rho σ b 4 2 = b + 5 := by show rho b 4 = b + 5; rcases h with rfl | rfl | rfl <;> decide +kernel
theorem pB5 {b : Int} (h : isB b) : 0 ≤ b + 6 ∧ b + 6 < ((181 : Nat) : Int) := by rcases h with rfl | rfl | rfl <;> decide
theorem sB5 {b : Int} (h : isB b) : shp (b + 6).toNat = (0, 10) := by rcases h with rfl | rfl | rfl <;> decide +kernel
theorem rB5 (σ : Mem) {b : Int} (h : isB b) : fv rho σ b 5 2 = b + 6 := by show rho b 5 = b + 6; rcases h with rfl | rfl | rfl <;> decide +kernel
theorem pB6 {b : Int} (h : isB b) : 0 ≤ b + 7 ∧ b + 7 < ((181 : Nat) : Int) := by rcases h with rfl | rfl | rfl <;> decide
theorem sB6 {b : Int} (h : isB b) : shp (b + 7).toNat = (0, 10) := by rcases h with rfl | rfl | rfl <;> decide +kernel
theorem rB6 (σ : Mem) {b : Int} (h : isB b) : fv rho σ b 6 2 = b + 7 := by show rho b 6 = b + 7; rcases h with rfl | rfl | rfl <;> decide +kernel
theorem pB7 {b : Int} (h : isB b) : 0 ≤ b + 8 ∧ b + 8 < ((181 : Nat) : Int) := by rcases h with rfl | rfl | rfl <;> decide
theorem sB7 {b : Int} (h : isB b) : shp (b + 8).toNat = (0, 6) := by rcases h with rfl | rfl | rfl <;> decide +kernel
theorem rB7 (σ : Mem) {b : Int} (h : isB b) : fv rho σ b 7 2 = b + 8 := by show rho b 7 = b + 8; rcases h with rfl | rfl | rfl <;> decide +kernel
theorem isW_nat {w : Int} (h : isW w) : ∃ k : Nat, k < 11 ∧ w = 54 + 10 * (k : Int) := by
  obtain ⟨c, h1, h2, h3⟩ := h
  obtain ⟨k, rfl⟩ := Int.eq_ofNat_of_zero_le h1
  exact ⟨k, by omega, h3⟩
theorem pW {w : Int} (h : isW w) : 0 ≤ w ∧ w < ((181 : Nat) : Int) := by obtain ⟨k, hk, rfl⟩ := isW_nat h; omega
theorem sW {w : Int} (h : isW w) : shp (w).toNat = (12, 9) := by
  obtain ⟨k, hk, rfl⟩ := isW_nat h
  exact (by decide +kernel : ∀ k : Nat, k < 11 → shp ((54 + 10 * (k : Int))).toNat = (12, 9)) k hk
theorem pW0 {w : Int} (h : isW w) : 0 ≤ w + 1 ∧ w + 1 < ((181 : Nat) : Int) := by obtain ⟨k, hk, rfl⟩ := isW_nat h; omega
theorem sW0 {w : Int} (h : isW w) : shp (w + 1).toNat = (2, 5) := by
  obtain ⟨k, hk, rfl⟩ := isW_nat h
  exact (by decide +kernel : ∀ k : Nat, k < 11 → shp ((54 + 10 * (k : Int)) + 1).toNat = (2, 5)) k hk
theorem rW0 (σ : Mem) {w : Int} (h : isW w) : fv rho σ w 0 2 = w + 1 := by
  show rho w 0 = w + 1
  obtain ⟨k, hk, rfl⟩ := isW_nat h
  exact (by decide +kernel : ∀ k : Nat, k < 11 → rho (54 + 10 * (k : Int)) 0 = 54 + 10 * (k : Int) + 1) k hk
theorem pW1 {w : Int} (h : isW w) : 0 ≤ w + 2 ∧ w + 2 < ((181 : Nat) : Int) := by obtain ⟨k, hk, rfl⟩ := isW_nat h; omega
theorem sW1 {w : Int} (h : isW w) : shp (w + 2).toNat = (0, 5) := by
  obtain ⟨k, hk, rfl⟩ := isW_nat h
  exact (by decide +kernel : ∀ k : Nat, k < 11 → shp ((54 + 10 * (k : Int)) + 2).toNat = (0, 5)) k hk
theorem rW1 (σ : Mem) {w : Int} (h : isW w) : fv rho σ w 1 2 = w + 2 := by
  show rho w 1 = w + 2
  obtain ⟨k, hk, rfl⟩ := isW_nat h
  exact (by decide +kernel : ∀ k : Nat, k < 11 → rho (54 + 10 * (k : Int)) 1 = 54 + 10 * (k : Int) + 2) k hk
theorem pW2 {w : Int} (h : isW w) : 0 ≤ w + 3 ∧ w + 3 < ((181 : Nat) : Int) := by obtain ⟨k, hk, rfl⟩ := isW_nat h; omega
theorem sW2 {w : Int} (h : isW w) : shp (w + 3).toNat = (0, 5) := by
  obtain ⟨k, hk, rfl⟩ := isW_nat h
  exact (by decide +kernel : ∀ k : Nat, k < 11 → shp ((54 + 10 * (k : Int)) + 3).toNat = (0, 5)) k hk
theorem rW2 (σ : Mem) {w : Int} (h : isW w) : fv rho σ w 2 2 = w + 3 := by
  show rho w 2 = w + 3
  obtain ⟨k, hk, rfl⟩ := isW_nat h
  exact (by decide +kernel : ∀ k : Nat, k < 11 → rho (54 + 10 * (k : Int)) 2 = 54 + 10 * (k : Int) + 3) k hk
theorem pW3 {w : Int} (h : isW w) : 0 ≤ w + 4 ∧ w + 4 < ((181 : Nat) : Int) := by obtain ⟨k, hk, rfl⟩ := isW_nat h; omega
theorem sW3 {w : Int} (h : isW w) : shp (w + 4).toNat = (0, 5) := by
  obtain ⟨k, hk, rfl⟩ := isW_nat h
  exact (by decide +kernel : ∀ k : Nat, k < 11 → shp ((54 + 10 * (k : Int)) + 4).toNat = (0, 5)) k hk
theorem rW3 (σ : Mem) {w : Int} (h : isW w) : fv rho σ w 3 2 = w + 4 := by
  show rho w 3 = w + 4
  obtain ⟨k, hk, rfl⟩ := isW_nat h
  exact (by decide +kernel : ∀ k : Nat, k < 11 → rho (54 + 10 * (k : Int)) 3 = 54 + 10 * (k : Int) + 4) k hk
theorem pW4 {w : Int} (h : isW w) : 0 ≤ w + 5 ∧ w + 5 < ((181 : Nat) : Int) := by obtain ⟨k, hk, rfl⟩ := isW_nat h; omega
theorem sW4 {w : Int} (h : isW w) : shp (w + 5).toNat = (0, 5) := by
  obtain ⟨k, hk, rfl⟩ := isW_nat h
  exact (by decide +kernel : ∀ k : Nat, k < 11 → shp ((54 + 10 * (k : Int)) + 5).toNat = (0, 5)) k hk
theorem rW4 (σ : Mem) {w : Int} (h : isW w) : fv rho σ w 4 2 = w + 5 := by
  show rho w 4 = w + 5
  obtain ⟨k, hk, rfl⟩ := isW_nat h
  exact (by decide +kernel : ∀ k : Nat, k < 11 → rho (54 + 10 * (k : Int)) 4 = 54 + 10 * (k : Int) + 5) k hk
theorem pW5 {w : Int} (h : isW w) : 0 ≤ w + 6 ∧ w + 6 < ((181 : Nat) : Int) := by obtain ⟨k, hk, rfl⟩ := isW_nat h; omega
theorem sW5 {w : Int} (h : isW w) : shp (w + 6).toNat = (1, 5) := by
  obtain ⟨k, hk, rfl⟩ := isW_nat h
  exact (by decide +kernel : ∀ k : Nat, k < 11 → shp ((54 + 10 * (k : Int)) + 6).toNat = (1, 5)) k hk
theorem rW5 (σ : Mem) {w : Int} (h : isW w) : fv rho σ w 5 2 = w + 6 := by
  show rho w 5 = w + 6
  obtain ⟨k, hk, rfl⟩ := isW_nat h
  exact (by decide +kernel : ∀ k : Nat, k < 11 → rho (54 + 10 * (k : Int)) 5 = 54 + 10 * (k : Int) + 6) k hk
theorem pW6 {w : Int} (h : isW w) : 0 ≤ w + 7 ∧ w + 7 < ((181 : Nat) : Int) := by obtain ⟨k, hk, rfl⟩ := isW_nat h; omega
theorem sW6 {w : Int} (h : isW w) : shp (w + 7).toNat = (0, 20) := by
  obtain ⟨k, hk, rfl⟩ := isW_nat h
  exact (by decide +kernel : ∀ k : Nat, k < 11 → shp ((54 + 10 * (k : Int)) + 7).toNat = (0, 20)) k hk
theorem rW6 (σ : Mem) {w : Int} (h : isW w) : fv rho σ w 6 2 = w + 7 := by
  show rho w 6 = w + 7
  obtain ⟨k, hk, rfl⟩ := isW_nat h
  exact (by decide +kernel : ∀ k : Nat, k < 11 → rho (54 + 10 * (k : Int)) 6 = 54 + 10 * (k : Int) + 7) k hk
theorem pW7 {w : Int} (h : isW w) : 0 ≤ w + 8 ∧ w + 8 < ((181 : Nat) : Int) := by obtain ⟨k, hk, rfl⟩ := isW_nat h; omega
theorem sW7 {w : Int} (h : isW w) : shp (w + 8).toNat = (0, 20) := by
  obtain ⟨k, hk, rfl⟩ := isW_nat h
  exact (by decide +kernel : ∀ k : Nat, k < 11 → shp ((54 + 10 * (k : Int)) + 8).toNat = (0, 20)) k hk
theorem rW7 (σ : Mem) {w : Int} (h : isW w) : fv rho σ w 7 2 = w + 8 := by
  show rho w 7 = w + 8
  obtain ⟨k, hk, rfl⟩ := isW_nat h
  exact (by decide +kernel : ∀ k : Nat, k < 11 → rho (54 + 10 * (k : Int)) 7 = 54 + 10 * (k : Int) + 8) k hk
theorem pW8 {w : Int} (h : isW w) : 0 ≤ w + 9 ∧ w + 9 < ((181 : Nat) : Int) := by obtain ⟨k, hk, rfl⟩ := isW_nat h; omega
theorem sW8 {w : Int} (h : isW w) : shp (w + 9).toNat = (0, 20) := by
  obtain ⟨k, hk, rfl⟩ := isW_nat h
  exact (by decide +kernel : ∀ k : Nat, k < 11 → shp ((54 + 10 * (k : Int)) + 9).toNat = (0, 20)) k hk
theorem rW8 (σ : Mem) {w : Int} (h : isW w) : fv rho σ w 8 2 = w + 9 := by
  show rho w 8 = w + 9
  obtain ⟨k, hk, rfl⟩ := isW_nat h
  exact (by decide +kernel : ∀ k : Nat, k < 11 → rho (54 + 10 * (k : Int)) 8 = 54 + 10 * (k : Int) + 9) k hk
theorem pA {a : Int} (h : isA a) : 0 ≤ a ∧ a < ((181 : Nat) : Int) := by rcases h with rfl | rfl | rfl | rfl <;> decide
theorem sA {a : Int} (h : isA a) : shp a.toNat = (0, 4) := by rcases h with rfl | rfl | rfl | rfl <;> decide +kernel
