abbrev tZ0 : Type := (Int × Int × Int × Int × Int × (Nat → Int) × Int × (Nat → Int) × Int)
abbrev tZ1 : Type := ((Nat → Int) × Int)
abbrev tZ2 : Type := ((Nat → Int) × (Nat → Int) × (Nat → Int) × (Nat → Int) × Int × Int)
abbrev tZ3 : Type := (Int × Int)
abbrev tZ4 : Type := ((Nat → Int) × (Nat → Int) × (Nat → Nat → Int) × Int × Int)
abbrev tZ5 : Type := ((Nat → Int) × (Nat → Int) × (Nat → Int) × Int)
abbrev tZ6 : Type := (Nat → Int)
abbrev tZ7 : Type := (Int × Int × Int × Int × Int × Int × Int × Int × Int × Int)
abbrev tZ8 : Type := ((Nat → Int) × (Nat → Int) × (Nat → Int) × Int)
abbrev tZ9 : Type := ((Nat → Int) × Int × Int × Int)
abbrev tZ10 : Type := ((Nat → Int) × Int)
abbrev tZ11 : Type := (Nat → Int)
abbrev tZ12 : Type := ((Nat → Int) × (Nat → Int) × (Nat → Nat → Int) × (Nat → Nat → Int))
abbrev cX0 (z : tZ0) : tX0 := ((Int32.ofInt z.1), (Int32.ofInt z.2.1), (Int64.ofInt z.2.2.1), (Int64.ofInt z.2.2.2.1), (Int64.ofInt z.2.2.2.2.1), (cF z.2.2.2.2.2.1), (Int32.ofInt z.2.2.2.2.2.2.1), (cF z.2.2.2.2.2.2.2.1), (Int32.ofInt z.2.2.2.2.2.2.2.2))
abbrev cX1 (z : tZ1) : tX1 := ((cF z.1), (Int32.ofInt z.2))
abbrev cX2 (z : tZ2) : tX2 := ((cG z.1), (cG z.2.1), (cF z.2.2.1), (cF z.2.2.2.1), (Int32.ofInt z.2.2.2.2.1), (Int32.ofInt z.2.2.2.2.2))
abbrev cX3 (z : tZ3) : tX3 := ((Int64.ofInt z.1), (Int64.ofInt z.2))
abbrev cX4 (z : tZ4) : tX4 := ((cF z.1), (cF z.2.1), (cFF z.2.2.1), (Int32.ofInt z.2.2.2.1), (Int32.ofInt z.2.2.2.2))
abbrev cX5 (z : tZ5) : tX5 := ((cF z.1), (cF z.2.1), (cF z.2.2.1), (Int32.ofInt z.2.2.2))
abbrev cX6 (z : tZ6) : tX6 := (cF z)
abbrev cX7 (z : tZ7) : tX7 := ((Int64.ofInt z.1), (Int64.ofInt z.2.1), (Int64.ofInt z.2.2.1), (Int64.ofInt z.2.2.2.1), (Int64.ofInt z.2.2.2.2.1), (Int64.ofInt z.2.2.2.2.2.1), (Int64.ofInt z.2.2.2.2.2.2.1), (Int64.ofInt z.2.2.2.2.2.2.2.1), (Int64.ofInt z.2.2.2.2.2.2.2.2.1), (Int64.ofInt z.2.2.2.2.2.2.2.2.2))
abbrev cX8 (z : tZ8) : tX8 := ((cF z.1), (cF z.2.1), (cF z.2.2.1), (Int32.ofInt z.2.2.2))
abbrev cX9 (z : tZ9) : tX9 := ((cF z.1), (Int32.ofInt z.2.1), (Int32.ofInt z.2.2.1), (Int32.ofInt z.2.2.2))
abbrev cX10 (z : tZ10) : tX10 := ((cF z.1), (Int32.ofInt z.2))
abbrev cX11 (z : tZ11) : tX11 := (cF z)
abbrev cX12 (z : tZ12) : tX12 := ((cF z.1), (cG z.2.1), (cFF z.2.2.1), (cGG z.2.2.2))
theorem l32_0 : (0 : Int32) = Int32.ofInt (0 : Int) := by decide +kernel
theorem l32_1 : (1 : Int32) = Int32.ofInt (1 : Int) := by decide +kernel
theorem l32_10 : (10 : Int32) = Int32.ofInt (10 : Int) := by decide +kernel
theorem l32_100 : (100 : Int32) = Int32.ofInt (100 : Int) := by decide +kernel
theorem l32_11 : (11 : Int32) = Int32.ofInt (11 : Int) := by decide +kernel
theorem l32_112 : (112 : Int32) = Int32.ofInt (112 : Int) := by decide +kernel
theorem l32_12 : (12 : Int32) = Int32.ofInt (12 : Int) := by decide +kernel
theorem l32_120 : (120 : Int32) = Int32.ofInt (120 : Int) := by decide +kernel
theorem l32_124 : (124 : Int32) = Int32.ofInt (124 : Int) := by decide +kernel
theorem l32_128 : (128 : Int32) = Int32.ofInt (128 : Int) := by decide +kernel
theorem l32_13 : (13 : Int32) = Int32.ofInt (13 : Int) := by decide +kernel
theorem l32_14 : (14 : Int32) = Int32.ofInt (14 : Int) := by decide +kernel
theorem l32_15 : (15 : Int32) = Int32.ofInt (15 : Int) := by decide +kernel
theorem l32_150 : (150 : Int32) = Int32.ofInt (150 : Int) := by decide +kernel
theorem l32_16 : (16 : Int32) = Int32.ofInt (16 : Int) := by decide +kernel
theorem l32_160 : (160 : Int32) = Int32.ofInt (160 : Int) := by decide +kernel
theorem l32_168 : (168 : Int32) = Int32.ofInt (168 : Int) := by decide +kernel
theorem l32_17 : (17 : Int32) = Int32.ofInt (17 : Int) := by decide +kernel
theorem l32_170 : (170 : Int32) = Int32.ofInt (170 : Int) := by decide +kernel
theorem l32_18 : (18 : Int32) = Int32.ofInt (18 : Int) := by decide +kernel
theorem l32_19 : (19 : Int32) = Int32.ofInt (19 : Int) := by decide +kernel
theorem l32_2 : (2 : Int32) = Int32.ofInt (2 : Int) := by decide +kernel
theorem l32_20 : (20 : Int32) = Int32.ofInt (20 : Int) := by decide +kernel
theorem l32_200 : (200 : Int32) = Int32.ofInt (200 : Int) := by decide +kernel
theorem l32_21 : (21 : Int32) = Int32.ofInt (21 : Int) := by decide +kernel
theorem l32_22 : (22 : Int32) = Int32.ofInt (22 : Int) := by decide +kernel
theorem l32_23 : (23 : Int32) = Int32.ofInt (23 : Int) := by decide +kernel
theorem l32_24 : (24 : Int32) = Int32.ofInt (24 : Int) := by decide +kernel
theorem l32_25 : (25 : Int32) = Int32.ofInt (25 : Int) := by decide +kernel
theorem l32_255 : (255 : Int32) = Int32.ofInt (255 : Int) := by decide +kernel
theorem l32_26 : (26 : Int32) = Int32.ofInt (26 : Int) := by decide +kernel
theorem l32_27 : (27 : Int32) = Int32.ofInt (27 : Int) := by decide +kernel
theorem l32_28 : (28 : Int32) = Int32.ofInt (28 : Int) := by decide +kernel
theorem l32_29 : (29 : Int32) = Int32.ofInt (29 : Int) := by decide +kernel
theorem l32_298 : (298 : Int32) = Int32.ofInt (298 : Int) := by decide +kernel
theorem l32_3 : (3 : Int32) = Int32.ofInt (3 : Int) := by decide +kernel
theorem l32_30 : (30 : Int32) = Int32.ofInt (30 : Int) := by decide +kernel
theorem l32_300 : (300 : Int32) = Int32.ofInt (300 : Int) := by decide +kernel
theorem l32_31 : (31 : Int32) = Int32.ofInt (31 : Int) := by decide +kernel
theorem l32_32 : (32 : Int32) = Int32.ofInt (32 : Int) := by decide +kernel
theorem l32_3230 : (3230 : Int32) = Int32.ofInt (3230 : Int) := by decide +kernel
theorem l32_33 : (33 : Int32) = Int32.ofInt (33 : Int) := by decide +kernel
theorem l32_34 : (34 : Int32) = Int32.ofInt (34 : Int) := by decide +kernel
theorem l32_35 : (35 : Int32) = Int32.ofInt (35 : Int) := by decide +kernel
theorem l32_36 : (36 : Int32) = Int32.ofInt (36 : Int) := by decide +kernel
theorem l32_37 : (37 : Int32) = Int32.ofInt (37 : Int) := by decide +kernel
theorem l32_38 : (38 : Int32) = Int32.ofInt (38 : Int) := by decide +kernel
theorem l32_39 : (39 : Int32) = Int32.ofInt (39 : Int) := by decide +kernel
theorem l32_4 : (4 : Int32) = Int32.ofInt (4 : Int) := by decide +kernel
theorem l32_40 : (40 : Int32) = Int32.ofInt (40 : Int) := by decide +kernel
theorem l32_400 : (400 : Int32) = Int32.ofInt (400 : Int) := by decide +kernel
theorem l32_41 : (41 : Int32) = Int32.ofInt (41 : Int) := by decide +kernel
theorem l32_44 : (44 : Int32) = Int32.ofInt (44 : Int) := by decide +kernel
theorem l32_45 : (45 : Int32) = Int32.ofInt (45 : Int) := by decide +kernel
theorem l32_48 : (48 : Int32) = Int32.ofInt (48 : Int) := by decide +kernel
theorem l32_5 : (5 : Int32) = Int32.ofInt (5 : Int) := by decide +kernel
theorem l32_57 : (57 : Int32) = Int32.ofInt (57 : Int) := by decide +kernel
theorem l32_59 : (59 : Int32) = Int32.ofInt (59 : Int) := by decide +kernel
theorem l32_6 : (6 : Int32) = Int32.ofInt (6 : Int) := by decide +kernel
theorem l32_63 : (63 : Int32) = Int32.ofInt (63 : Int) := by decide +kernel
theorem l32_7 : (7 : Int32) = Int32.ofInt (7 : Int) := by decide +kernel
theorem l32_780 : (780 : Int32) = Int32.ofInt (780 : Int) := by decide +kernel
theorem l32_8 : (8 : Int32) = Int32.ofInt (8 : Int) := by decide +kernel
theorem l32_80 : (80 : Int32) = Int32.ofInt (80 : Int) := by decide +kernel
theorem l32_82 : (82 : Int32) = Int32.ofInt (82 : Int) := by decide +kernel
theorem l32_9 : (9 : Int32) = Int32.ofInt (9 : Int) := by decide +kernel
theorem l32_97 : (97 : Int32) = Int32.ofInt (97 : Int) := by decide +kernel
theorem l32_99 : (99 : Int32) = Int32.ofInt (99 : Int) := by decide +kernel
theorem l32_m1 : (-1 : Int32) = Int32.ofInt (-1 : Int) := by decide +kernel
theorem l32_m100 : (-100 : Int32) = Int32.ofInt (-100 : Int) := by decide +kernel
theorem l32_m1000 : (-1000 : Int32) = Int32.ofInt (-1000 : Int) := by decide +kernel
theorem l32_m3 : (-3 : Int32) = Int32.ofInt (-3 : Int) := by decide +kernel
theorem l32_m8 : (-8 : Int32) = Int32.ofInt (-8 : Int) := by decide +kernel
theorem l64_0 : (0 : Int64) = Int64.ofInt (0 : Int) := by decide +kernel
theorem l64_1 : (1 : Int64) = Int64.ofInt (1 : Int) := by decide +kernel
theorem l64_2 : (2 : Int64) = Int64.ofInt (2 : Int) := by decide +kernel
theorem l64_4 : (4 : Int64) = Int64.ofInt (4 : Int) := by decide +kernel
theorem l64_4096 : (4096 : Int64) = Int64.ofInt (4096 : Int) := by decide +kernel
theorem l64_4294967295 : (4294967295 : Int64) = Int64.ofInt (4294967295 : Int) := by decide +kernel
theorem l64_63 : (63 : Int64) = Int64.ofInt (63 : Int) := by decide +kernel
theorem l64_64 : (64 : Int64) = Int64.ofInt (64 : Int) := by decide +kernel
theorem l64_m1 : (-1 : Int64) = Int64.ofInt (-1 : Int) := by decide +kernel
theorem l64_m1000 : (-1000 : Int64) = Int64.ofInt (-1000 : Int) := by decide +kernel
