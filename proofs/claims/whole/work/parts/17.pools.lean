theorem fd_X0_33 : ylk kd_X0.2.1 33 = some (0, 0, 5, true) := by decide +kernel
theorem fd_X0_39 : ylk kd_X0.2.1 39 = some (0, 2, 5, true) := by decide +kernel
theorem fd_X0_43 : ylk kd_X0.2.1 43 = some (0, 3, 5, true) := by decide +kernel
theorem fd_X0_46 : ylk kd_X0.2.1 46 = some (0, 6, 5, true) := by decide +kernel
theorem fd_X0_49 : ylk kd_X0.2.1 49 = some (0, 7, 5, true) := by decide +kernel
theorem fd_X0_52 : ylk kd_X0.2.1 52 = some (0, 8, 5, true) := by decide +kernel
theorem fd_X0_55 : ylk kd_X0.2.1 55 = some (0, 9, 5, true) := by decide +kernel
theorem fd_X0_58 : ylk kd_X0.2.1 58 = some (0, 10, 5, true) := by decide +kernel
theorem fd_X0_61 : ylk kd_X0.2.1 61 = some (0, 13, 5, true) := by decide +kernel
theorem fd_X0_64 : ylk kd_X0.2.1 64 = some (0, 14, 5, true) := by decide +kernel
theorem fd_X0_67 : ylk kd_X0.2.1 67 = some (0, 1, 0, false) := by decide +kernel
theorem fd_X0_71 : ylk kd_X0.2.1 71 = some (0, 4, 0, false) := by decide +kernel
theorem fd_X0_74 : ylk kd_X0.2.1 74 = some (0, 5, 0, false) := by decide +kernel
theorem fd_X0_77 : ylk kd_X0.2.1 77 = some (0, 11, 0, false) := by decide +kernel
theorem fd_X0_80 : ylk kd_X0.2.1 80 = some (0, 12, 0, false) := by decide +kernel
theorem cl_X0_c250 : ylk kd_X0.2.2.2 250 = some (5, 0, 5, [], 0) := rfl
theorem cl_X0_c267 : ylk kd_X0.2.2.2 267 = some (2, 1, 1, [(0, 1)], 0) := rfl
theorem cl_X0_c279 : ylk kd_X0.2.2.2 279 = some (2, 1, 1, [(0, 2)], 0) := rfl
theorem cl_X0_c288 : ylk kd_X0.2.2.2 288 = some (2, 1, 1, [(0, 3)], 0) := rfl
theorem cl_X0_c297 : ylk kd_X0.2.2.2 297 = some (2, 1, 1, [(0, 4)], 0) := rfl
theorem cl_X0_c306 : ylk kd_X0.2.2.2 306 = some (2, 0, 1, [(0, 10)], 0) := rfl
theorem cl_X0_c318 : ylk kd_X0.2.2.2 318 = some (2, 1, 1, [(0, 11)], 0) := rfl
theorem cl_X0_c327 : ylk kd_X0.2.2.2 327 = some (3, 1, 1, [(1, 34), (2, 37), (3, 40), (4, 43), (5, 46), (6, 49), (8, 60), (9, 70)], 0) := rfl
theorem cl_X0_c340 : ylk kd_X0.2.2.2 340 = some (2, 1, 3, [], 0) := rfl
theorem cl_X0_c355 : ylk kd_X0.2.2.2 355 = some (1, 1, 4, [], 0) := rfl
theorem cl_X0_c366 : ylk kd_X0.2.2.2 366 = some (4, 1, 1, [(0, 12)], 0) := rfl
theorem cl_X0_c378 : ylk kd_X0.2.2.2 378 = some (2, 1, 1, [(0, 13)], 0) := rfl
theorem cl_X0_c387 : ylk kd_X0.2.2.2 387 = some (5, 1, 1, [(1, 35), (2, 38), (3, 41), (4, 44), (5, 47), (6, 50), (8, 61), (9, 71)], 0) := rfl
theorem cl_X0_c399 : ylk kd_X0.2.2.2 399 = some (3, 1, 1, [(0, 15)], 0) := rfl
theorem cl_X0_c408 : ylk kd_X0.2.2.2 408 = some (1, 0, 1, [(0, 20)], 0) := rfl
theorem cl_X0_c418 : ylk kd_X0.2.2.2 418 = some (2, 1, 0, [], 98) := rfl
theorem cl_X0_c429 : ylk kd_X0.2.2.2 429 = some (2, 1, 1, [(0, 25)], 0) := rfl
theorem cl_X0_c438 : ylk kd_X0.2.2.2 438 = some (2, 1, 1, [(0, 31)], 0) := rfl
theorem cl_X0_c447 : ylk kd_X0.2.2.2 447 = some (1, 0, 1, [(0, 30)], 0) := rfl
theorem cl_X0_c457 : ylk kd_X0.2.2.2 457 = some (2, 1, 2, [], 0) := rfl
theorem cl_X1_c23 : ylk kd_X1.2.2.2 23 = some (3, 1, 1, [(1, 37), (2, 37), (3, 37), (4, 37), (5, 37), (6, 37), (8, 37), (9, 37)], 0) := rfl
theorem cl_X1_c35 : ylk kd_X1.2.2.2 35 = some (5, 1, 1, [(1, 38), (2, 38), (3, 38), (4, 38), (5, 38), (6, 38), (8, 38), (9, 38)], 0) := rfl
theorem cl_X1_c47 : ylk kd_X1.2.2.2 47 = some (2, 1, 1, [(1, 39), (2, 39), (3, 39), (4, 39), (5, 39), (6, 39), (8, 39), (9, 39)], 0) := rfl
theorem cl_X2_c23 : ylk kd_X2.2.2.2 23 = some (5, 1, 1, [(1, 61), (2, 61), (3, 61), (4, 61), (5, 61), (6, 61), (8, 61), (9, 61)], 0) := rfl
theorem cl_X3_c23 : ylk kd_X3.2.2.2 23 = some (3, 1, 1, [(1, 37), (2, 37), (3, 37), (4, 37), (5, 37), (6, 37), (8, 37), (9, 37)], 0) := rfl
theorem cl_X3_c35 : ylk kd_X3.2.2.2 35 = some (5, 1, 1, [(1, 38), (2, 38), (3, 38), (4, 38), (5, 38), (6, 38), (8, 38), (9, 38)], 0) := rfl
theorem cl_X3_c47 : ylk kd_X3.2.2.2 47 = some (2, 1, 1, [(1, 39), (2, 39), (3, 39), (4, 39), (5, 39), (6, 39), (8, 39), (9, 39)], 0) := rfl
theorem cl_X4_c23 : ylk kd_X4.2.2.2 23 = some (2, 1, 1, [(1, 62), (2, 62), (3, 62), (4, 62), (5, 62), (6, 62), (8, 62), (9, 62)], 0) := rfl
theorem cl_X5_c23 : ylk kd_X5.2.2.2 23 = some (3, 1, 1, [(1, 40), (2, 40), (3, 40), (4, 40), (5, 40), (6, 40), (8, 40), (9, 40)], 0) := rfl
theorem cl_X5_c35 : ylk kd_X5.2.2.2 35 = some (2, 1, 1, [(1, 42), (2, 42), (3, 42), (4, 42), (5, 42), (6, 42), (8, 42), (9, 42)], 0) := rfl
theorem fd_X7_11 : ylk kd_X7.2.1 11 = some (7, 0, 0, false) := by decide +kernel
theorem fd_X7_15 : ylk kd_X7.2.1 15 = some (7, 5, 5, true) := by decide +kernel
theorem fd_X7_19 : ylk kd_X7.2.1 19 = some (7, 1, 0, false) := by decide +kernel
theorem fd_X7_22 : ylk kd_X7.2.1 22 = some (7, 2, 0, false) := by decide +kernel
theorem fd_X7_25 : ylk kd_X7.2.1 25 = some (7, 3, 0, false) := by decide +kernel
theorem fd_X7_28 : ylk kd_X7.2.1 28 = some (7, 4, 0, false) := by decide +kernel
theorem ct_X7_31 : ylk kd_X7.2.2.1 31 = some (.inl (-2147483648)) := by decide +kernel
theorem fd_X9_9 : ylk kd_X9.2.1 9 = some (7, 4, 0, false) := by decide +kernel
theorem fd_X9_15 : ylk kd_X9.2.1 15 = some (7, 5, 5, true) := by decide +kernel
theorem cl_X9_c58 : ylk kd_X9.2.2.2 58 = some (1, 1, 0, [], 63) := rfl
theorem cl_X9_c75 : ylk kd_X9.2.2.2 75 = some (2, 1, 1, [(7, 55)], 0) := rfl
theorem cl_X9_c88 : ylk kd_X9.2.2.2 88 = some (3, 1, 0, [], 67) := rfl
theorem cl_X9_c100 : ylk kd_X9.2.2.2 100 = some (2, 1, 0, [], 68) := rfl
theorem cl_X9_c111 : ylk kd_X9.2.2.2 111 = some (3, 1, 1, [(0, 5)], 0) := rfl
theorem cl_X9_c130 : ylk kd_X9.2.2.2 130 = some (2, 1, 0, [], 69) := rfl
theorem cl_X9_c138 : ylk kd_X9.2.2.2 138 = some (5, 1, 1, [(0, 6)], 0) := rfl
theorem cl_X9_c150 : ylk kd_X9.2.2.2 150 = some (3, 1, 1, [(0, 7)], 0) := rfl
theorem cl_X9_c159 : ylk kd_X9.2.2.2 159 = some (2, 1, 1, [(0, 8)], 0) := rfl
theorem cl_X9_c168 : ylk kd_X9.2.2.2 168 = some (2, 1, 1, [(0, 9)], 0) := rfl
theorem cl_X10_c23 : ylk kd_X10.2.2.2 23 = some (3, 1, 1, [(1, 43), (2, 43), (3, 43), (4, 43), (5, 43), (6, 43), (8, 43), (9, 43)], 0) := rfl
theorem cl_X10_c35 : ylk kd_X10.2.2.2 35 = some (5, 1, 1, [(1, 44), (2, 44), (3, 44), (4, 44), (5, 44), (6, 44), (8, 44), (9, 44)], 0) := rfl
theorem fd_X11_12 : ylk kd_X11.2.1 12 = some (10, 0, 5, true) := by decide +kernel
theorem fd_X11_16 : ylk kd_X11.2.1 16 = some (10, 1, 5, true) := by decide +kernel
theorem fd_X11_19 : ylk kd_X11.2.1 19 = some (10, 2, 5, true) := by decide +kernel
theorem fd_X11_22 : ylk kd_X11.2.1 22 = some (10, 3, 2, false) := by decide +kernel
theorem fd_X11_28 : ylk kd_X11.2.1 28 = some (10, 4, 5, true) := by decide +kernel
theorem fd_X11_33 : ylk kd_X11.2.1 33 = some (10, 5, 5, true) := by decide +kernel
theorem fd_X11_37 : ylk kd_X11.2.1 37 = some (10, 6, 5, true) := by decide +kernel
theorem fd_X11_40 : ylk kd_X11.2.1 40 = some (10, 7, 5, true) := by decide +kernel
theorem fd_X11_47 : ylk kd_X11.2.1 47 = some (7, 3, 0, false) := by decide +kernel
theorem fd_X11_72 : ylk kd_X11.2.1 72 = some (0, 2, 5, true) := by decide +kernel
theorem fd_X11_75 : ylk kd_X11.2.1 75 = some (0, 3, 5, true) := by decide +kernel
theorem fd_X11_93 : ylk kd_X11.2.1 93 = some (0, 6, 5, true) := by decide +kernel
theorem fd_X11_96 : ylk kd_X11.2.1 96 = some (0, 7, 5, true) := by decide +kernel
theorem fd_X11_99 : ylk kd_X11.2.1 99 = some (0, 8, 5, true) := by decide +kernel
theorem fd_X11_102 : ylk kd_X11.2.1 102 = some (0, 9, 5, true) := by decide +kernel
theorem fd_X11_108 : ylk kd_X11.2.1 108 = some (0, 10, 5, true) := by decide +kernel
theorem fd_X11_121 : ylk kd_X11.2.1 121 = some (7, 1, 0, false) := by decide +kernel
theorem fd_X11_123 : ylk kd_X11.2.1 123 = some (7, 2, 0, false) := by decide +kernel
theorem fd_X11_158 : ylk kd_X11.2.1 158 = some (0, 5, 0, false) := by decide +kernel
theorem fd_X11_232 : ylk kd_X11.2.1 232 = some (0, 14, 5, true) := by decide +kernel
theorem fd_X11_244 : ylk kd_X11.2.1 244 = some (0, 1, 0, false) := by decide +kernel
theorem fd_X11_257 : ylk kd_X11.2.1 257 = some (7, 4, 0, false) := by decide +kernel
theorem fd_X11_260 : ylk kd_X11.2.1 260 = some (7, 5, 5, true) := by decide +kernel
theorem fd_X11_283 : ylk kd_X11.2.1 283 = some (0, 0, 5, true) := by decide +kernel
theorem fd_X11_287 : ylk kd_X11.2.1 287 = some (0, 12, 0, false) := by decide +kernel
theorem fd_X11_321 : ylk kd_X11.2.1 321 = some (0, 4, 0, false) := by decide +kernel
theorem fd_X11_324 : ylk kd_X11.2.1 324 = some (0, 11, 0, false) := by decide +kernel
theorem fd_X11_357 : ylk kd_X11.2.1 357 = some (7, 0, 0, false) := by decide +kernel
theorem ct_X11_193 : ylk kd_X11.2.2.1 193 = some (.inr (2048)) := by decide +kernel
theorem ct_X11_220 : ylk kd_X11.2.2.1 220 = some (.inr (1000000000)) := by decide +kernel
theorem ct_X11_318 : ylk kd_X11.2.2.1 318 = some (.inl (1103515245)) := by decide +kernel
theorem ct_X11_319 : ylk kd_X11.2.2.1 319 = some (.inl (2147483647)) := by decide +kernel
theorem ct_X11_320 : ylk kd_X11.2.2.1 320 = some (.inl (65536)) := by decide +kernel
theorem cl_X11_c129 : ylk kd_X11.2.2.2 129 = some (2, 1, 1, [(10, 135)], 0) := rfl
theorem cl_X11_c154 : ylk kd_X11.2.2.2 154 = some (1, 1, 0, [], 64) := rfl
theorem cl_X11_c171 : ylk kd_X11.2.2.2 171 = some (2, 0, 1, [(0, 0)], 0) := rfl
theorem cl_X11_c184 : ylk kd_X11.2.2.2 184 = some (2, 1, 0, [], 66) := rfl
theorem cl_X11_c196 : ylk kd_X11.2.2.2 196 = some (1, 1, 0, [], 65) := rfl
theorem cl_X11_c204 : ylk kd_X11.2.2.2 204 = some (2, 1, 1, [(0, 1)], 0) := rfl
theorem cl_X11_c234 : ylk kd_X11.2.2.2 234 = some (2, 1, 1, [(0, 3)], 0) := rfl
theorem cl_X11_c243 : ylk kd_X11.2.2.2 243 = some (2, 1, 1, [(0, 16)], 0) := rfl
theorem cl_X11_c252 : ylk kd_X11.2.2.2 252 = some (2, 1, 1, [(0, 21)], 0) := rfl
theorem cl_X11_c261 : ylk kd_X11.2.2.2 261 = some (2, 1, 1, [(0, 23)], 0) := rfl
theorem cl_X11_c270 : ylk kd_X11.2.2.2 270 = some (2, 1, 1, [(0, 2)], 0) := rfl
theorem cl_X11_c315 : ylk kd_X11.2.2.2 315 = some (2, 1, 1, [(0, 4)], 0) := rfl
theorem cl_X11_c333 : ylk kd_X11.2.2.2 333 = some (2, 1, 1, [(0, 13)], 0) := rfl
theorem cl_X11_c342 : ylk kd_X11.2.2.2 342 = some (3, 1, 1, [(0, 15)], 0) := rfl
theorem cl_X11_c354 : ylk kd_X11.2.2.2 354 = some (2, 1, 1, [(10, 136)], 0) := rfl
theorem cl_X11_c375 : ylk kd_X11.2.2.2 375 = some (3, 1, 1, [(0, 5)], 0) := rfl
theorem cl_X11_c384 : ylk kd_X11.2.2.2 384 = some (5, 1, 1, [(0, 6)], 0) := rfl
theorem cl_X11_c396 : ylk kd_X11.2.2.2 396 = some (3, 1, 1, [(0, 7)], 0) := rfl
theorem cl_X11_c405 : ylk kd_X11.2.2.2 405 = some (2, 1, 1, [(0, 8)], 0) := rfl
theorem cl_X11_c414 : ylk kd_X11.2.2.2 414 = some (2, 1, 1, [(0, 9)], 0) := rfl
theorem cl_X11_c423 : ylk kd_X11.2.2.2 423 = some (1, 1, 1, [(0, 18)], 0) := rfl
theorem cl_X11_c436 : ylk kd_X11.2.2.2 436 = some (1, 1, 0, [], 85) := rfl
theorem cl_X11_c444 : ylk kd_X11.2.2.2 444 = some (2, 0, 1, [(10, 86)], 0) := rfl
theorem cl_X11_c456 : ylk kd_X11.2.2.2 456 = some (1, 1, 1, [(0, 22)], 0) := rfl
theorem cl_X11_c465 : ylk kd_X11.2.2.2 465 = some (2, 0, 1, [(0, 10)], 0) := rfl
theorem cl_X11_c483 : ylk kd_X11.2.2.2 483 = some (2, 0, 1, [(0, 14)], 0) := rfl
theorem cl_X11_c495 : ylk kd_X11.2.2.2 495 = some (5, 1, 1, [(0, 17)], 0) := rfl
theorem cl_X11_c507 : ylk kd_X11.2.2.2 507 = some (4, 1, 1, [(0, 12)], 0) := rfl
theorem cl_X11_c519 : ylk kd_X11.2.2.2 519 = some (3, 1, 1, [(10, 91)], 0) := rfl
theorem cl_X11_c531 : ylk kd_X11.2.2.2 531 = some (2, 1, 1, [(0, 27)], 0) := rfl
theorem cl_X11_c540 : ylk kd_X11.2.2.2 540 = some (2, 1, 1, [(0, 25)], 0) := rfl
theorem cl_X11_c550 : ylk kd_X11.2.2.2 550 = some (1, 1, 0, [], 99) := rfl
theorem cl_X11_c559 : ylk kd_X11.2.2.2 559 = some (1, 2, 0, [], 100) := rfl
theorem cl_X11_c570 : ylk kd_X11.2.2.2 570 = some (2, 0, 1, [(0, 28)], 0) := rfl
theorem cl_X11_c586 : ylk kd_X11.2.2.2 586 = some (3, 2, 0, [], 101) := rfl
theorem cl_X11_c597 : ylk kd_X11.2.2.2 597 = some (1, 1, 1, [(10, 95)], 0) := rfl
theorem cl_X11_c606 : ylk kd_X11.2.2.2 606 = some (1, 1, 1, [(10, 96)], 0) := rfl
theorem cl_X11_c615 : ylk kd_X11.2.2.2 615 = some (2, 1, 1, [(0, 26)], 0) := rfl
theorem cl_X11_c624 : ylk kd_X11.2.2.2 624 = some (1, 1, 1, [(0, 29)], 0) := rfl
theorem cl_X11_c634 : ylk kd_X11.2.2.2 634 = some (2, 1, 0, [], 98) := rfl
theorem cl_X11_c646 : ylk kd_X11.2.2.2 646 = some (2, 1, 2, [], 0) := rfl
theorem cl_X11_c667 : ylk kd_X11.2.2.2 667 = some (2, 2, 0, [], 102) := rfl
theorem cl_X11_c678 : ylk kd_X11.2.2.2 678 = some (1, 1, 1, [(0, 32)], 0) := rfl
theorem cl_X11_c687 : ylk kd_X11.2.2.2 687 = some (1, 0, 1, [(0, 30)], 0) := rfl
theorem cl_X11_c705 : ylk kd_X11.2.2.2 705 = some (3, 1, 1, [(0, 33)], 0) := rfl
theorem cl_X11_c714 : ylk kd_X11.2.2.2 714 = some (1, 0, 1, [(10, 106)], 0) := rfl
theorem cl_X11_c723 : ylk kd_X11.2.2.2 723 = some (2, 1, 1, [(10, 109)], 0) := rfl
theorem cl_X11_c741 : ylk kd_X11.2.2.2 741 = some (3, 1, 1, [(10, 107)], 0) := rfl
theorem cl_X11_c750 : ylk kd_X11.2.2.2 750 = some (4, 1, 1, [(10, 108)], 0) := rfl
theorem cl_X11_c762 : ylk kd_X11.2.2.2 762 = some (3, 1, 1, [(10, 110)], 0) := rfl
theorem cl_X11_c789 : ylk kd_X11.2.2.2 789 = some (2, 1, 1, [(7, 59)], 0) := rfl
theorem cl_X11_c799 : ylk kd_X11.2.2.2 799 = some (1, 1, 0, [], 134) := rfl
theorem cl_X11_c807 : ylk kd_X11.2.2.2 807 = some (3, 1, 1, [(10, 113)], 0) := rfl
theorem cl_X11_c819 : ylk kd_X11.2.2.2 819 = some (3, 1, 1, [(10, 114)], 0) := rfl
theorem cl_X11_c828 : ylk kd_X11.2.2.2 828 = some (5, 1, 1, [(10, 115)], 0) := rfl
theorem cl_X11_c840 : ylk kd_X11.2.2.2 840 = some (2, 1, 1, [(0, 11)], 0) := rfl
theorem cl_X11_c870 : ylk kd_X11.2.2.2 870 = some (3, 1, 1, [(1, 34), (2, 37), (3, 40), (4, 43), (5, 46), (6, 49), (8, 60), (9, 70)], 0) := rfl
theorem cl_X11_c886 : ylk kd_X11.2.2.2 886 = some (2, 1, 3, [], 0) := rfl
theorem cl_X11_c894 : ylk kd_X11.2.2.2 894 = some (2, 1, 1, [(7, 58)], 0) := rfl
theorem cl_X11_c903 : ylk kd_X11.2.2.2 903 = some (2, 1, 1, [(0, 24)], 0) := rfl
theorem cl_X11_c912 : ylk kd_X11.2.2.2 912 = some (3, 1, 1, [(10, 117)], 0) := rfl
theorem cl_X11_c922 : ylk kd_X11.2.2.2 922 = some (5, 2, 0, [], 119) := rfl
theorem cl_X11_c934 : ylk kd_X11.2.2.2 934 = some (2, 2, 0, [], 120) := rfl
theorem cl_X11_c945 : ylk kd_X11.2.2.2 945 = some (1, 1, 1, [(0, 19)], 0) := rfl
theorem cl_X11_c981 : ylk kd_X11.2.2.2 981 = some (1, 0, 1, [(7, 52)], 0) := rfl
theorem cl_X11_c990 : ylk kd_X11.2.2.2 990 = some (3, 0, 1, [(7, 53)], 0) := rfl
theorem cl_X11_c1002 : ylk kd_X11.2.2.2 1002 = some (3, 0, 1, [(7, 54)], 0) := rfl
theorem cl_X11_c1011 : ylk kd_X11.2.2.2 1011 = some (2, 1, 1, [(7, 55)], 0) := rfl
theorem cl_X11_c1020 : ylk kd_X11.2.2.2 1020 = some (3, 0, 1, [(7, 57)], 0) := rfl
theorem cl_X11_c1080 : ylk kd_X11.2.2.2 1080 = some (3, 1, 1, [(7, 56)], 0) := rfl
theorem cl_X11_c1090 : ylk kd_X11.2.2.2 1090 = some (5, 0, 5, [], 0) := rfl
theorem cl_X11_c1107 : ylk kd_X11.2.2.2 1107 = some (2, 1, 1, [(1, 36), (2, 39), (3, 42), (4, 45), (5, 48), (6, 51), (8, 62), (9, 45)], 0) := rfl
theorem cl_X11_c1117 : ylk kd_X11.2.2.2 1117 = some (2, 1, 0, [], 900) := rfl
theorem cl_X11_c1143 : ylk kd_X11.2.2.2 1143 = some (3, 1, 1, [(10, 137)], 0) := rfl
theorem fd_X12_9 : ylk kd_X12.2.1 9 = some (11, 0, 5, true) := by decide +kernel
theorem fd_X12_13 : ylk kd_X12.2.1 13 = some (11, 1, 5, true) := by decide +kernel
theorem fd_X12_16 : ylk kd_X12.2.1 16 = some (11, 2, 5, true) := by decide +kernel
theorem fd_X12_19 : ylk kd_X12.2.1 19 = some (11, 3, 5, true) := by decide +kernel
theorem fd_X12_22 : ylk kd_X12.2.1 22 = some (11, 8, 5, true) := by decide +kernel
theorem fd_X12_25 : ylk kd_X12.2.1 25 = some (11, 9, 5, true) := by decide +kernel
theorem fd_X12_28 : ylk kd_X12.2.1 28 = some (11, 11, 5, true) := by decide +kernel
theorem fd_X12_31 : ylk kd_X12.2.1 31 = some (11, 12, 5, true) := by decide +kernel
theorem fd_X12_34 : ylk kd_X12.2.1 34 = some (11, 13, 5, true) := by decide +kernel
theorem fd_X12_37 : ylk kd_X12.2.1 37 = some (11, 14, 5, true) := by decide +kernel
theorem fd_X12_40 : ylk kd_X12.2.1 40 = some (11, 15, 5, true) := by decide +kernel
theorem fd_X12_43 : ylk kd_X12.2.1 43 = some (11, 16, 5, true) := by decide +kernel
theorem fd_X12_92 : ylk kd_X12.2.1 92 = some (11, 5, 0, false) := by decide +kernel
theorem fd_X12_96 : ylk kd_X12.2.1 96 = some (11, 7, 0, false) := by decide +kernel
theorem fd_X12_99 : ylk kd_X12.2.1 99 = some (11, 6, 0, false) := by decide +kernel
theorem fd_X12_254 : ylk kd_X12.2.1 254 = some (11, 10, 0, false) := by decide +kernel
theorem fd_X12_263 : ylk kd_X12.2.1 263 = some (11, 4, 2, false) := by decide +kernel
theorem fd_X12_267 : ylk kd_X12.2.1 267 = some (11, 17, 0, false) := by decide +kernel
theorem ct_X12_183 : ylk kd_X12.2.2.1 183 = some (.inr (4096)) := by decide +kernel
theorem ct_X12_189 : ylk kd_X12.2.2.1 189 = some (.inr (2)) := by decide +kernel
theorem ct_X12_199 : ylk kd_X12.2.2.1 199 = some (.inr (1000000001)) := by decide +kernel
theorem ct_X12_237 : ylk kd_X12.2.2.1 237 = some (.inl (-2147483648)) := by decide +kernel
theorem ct_X12_257 : ylk kd_X12.2.2.1 257 = some (.inl (1103515245)) := by decide +kernel
theorem ct_X12_258 : ylk kd_X12.2.2.1 258 = some (.inl (2147483647)) := by decide +kernel
theorem ct_X12_259 : ylk kd_X12.2.2.1 259 = some (.inl (65536)) := by decide +kernel
theorem cl_X12_c139 : ylk kd_X12.2.2.2 139 = some (3, 1, 0, [], 138) := rfl
theorem cl_X12_c151 : ylk kd_X12.2.2.2 151 = some (2, 1, 0, [], 142) := rfl
theorem cl_X12_c163 : ylk kd_X12.2.2.2 163 = some (2, 1, 0, [], 143) := rfl
theorem cl_X12_c172 : ylk kd_X12.2.2.2 172 = some (2, 1, 0, [], 140) := rfl
theorem cl_X12_c181 : ylk kd_X12.2.2.2 181 = some (2, 1, 0, [], 139) := rfl
theorem cl_X12_c190 : ylk kd_X12.2.2.2 190 = some (2, 1, 0, [], 151) := rfl
theorem cl_X12_c202 : ylk kd_X12.2.2.2 202 = some (2, 1, 0, [], 152) := rfl
theorem cl_X12_c211 : ylk kd_X12.2.2.2 211 = some (5, 1, 0, [], 150) := rfl
theorem cl_X12_c223 : ylk kd_X12.2.2.2 223 = some (2, 1, 0, [], 153) := rfl
theorem cl_X12_c232 : ylk kd_X12.2.2.2 232 = some (2, 1, 0, [], 154) := rfl
theorem cl_X12_c241 : ylk kd_X12.2.2.2 241 = some (2, 1, 0, [], 146) := rfl
theorem cl_X12_c253 : ylk kd_X12.2.2.2 253 = some (3, 1, 0, [], 149) := rfl
theorem cl_X12_c265 : ylk kd_X12.2.2.2 265 = some (1, 0, 0, [], 158) := rfl
theorem cl_X12_c306 : ylk kd_X12.2.2.2 306 = some (1, 1, 1, [(11, 163)], 0) := rfl
theorem cl_X12_c318 : ylk kd_X12.2.2.2 318 = some (3, 1, 1, [(11, 164)], 0) := rfl
theorem cl_X12_c330 : ylk kd_X12.2.2.2 330 = some (3, 0, 1, [(11, 166)], 0) := rfl
theorem cl_X12_c342 : ylk kd_X12.2.2.2 342 = some (2, 1, 1, [(11, 144)], 0) := rfl
theorem cl_X12_c354 : ylk kd_X12.2.2.2 354 = some (2, 1, 1, [(11, 145)], 0) := rfl
theorem cl_X12_c364 : ylk kd_X12.2.2.2 364 = some (5, 0, 0, [], 160) := rfl
theorem cl_X12_c375 : ylk kd_X12.2.2.2 375 = some (3, 1, 1, [(11, 162)], 0) := rfl
theorem cl_X12_c385 : ylk kd_X12.2.2.2 385 = some (3, 0, 0, [], 161) := rfl
theorem cl_X12_c397 : ylk kd_X12.2.2.2 397 = some (2, 0, 0, [], 159) := rfl
theorem cl_X12_c408 : ylk kd_X12.2.2.2 408 = some (3, 1, 1, [(11, 230)], 0) := rfl
theorem cl_X12_c417 : ylk kd_X12.2.2.2 417 = some (1, 1, 1, [(11, 165)], 0) := rfl
theorem cl_X12_c430 : ylk kd_X12.2.2.2 430 = some (2, 0, 0, [], 141) := rfl
theorem cl_X12_c441 : ylk kd_X12.2.2.2 441 = some (2, 1, 1, [(11, 167)], 0) := rfl
theorem cl_X12_c451 : ylk kd_X12.2.2.2 451 = some (2, 1, 0, [], 156) := rfl
theorem cl_X12_c459 : ylk kd_X12.2.2.2 459 = some (2, 1, 1, [(11, 169)], 0) := rfl
theorem cl_X12_c471 : ylk kd_X12.2.2.2 471 = some (2, 1, 1, [(11, 231)], 0) := rfl
theorem cl_X12_c481 : ylk kd_X12.2.2.2 481 = some (1, 1, 0, [], 155) := rfl
theorem cl_X12_c493 : ylk kd_X12.2.2.2 493 = some (1, 1, 0, [], 177) := rfl
theorem cl_X12_c501 : ylk kd_X12.2.2.2 501 = some (2, 0, 1, [(11, 178)], 0) := rfl
theorem cl_X12_c514 : ylk kd_X12.2.2.2 514 = some (1, 1, 0, [], 157) := rfl
theorem cl_X12_c522 : ylk kd_X12.2.2.2 522 = some (3, 1, 1, [(11, 185)], 0) := rfl
theorem cl_X12_c531 : ylk kd_X12.2.2.2 531 = some (2, 1, 1, [(11, 190)], 0) := rfl
theorem cl_X12_c540 : ylk kd_X12.2.2.2 540 = some (3, 1, 1, [(11, 189)], 0) := rfl
theorem cl_X12_c555 : ylk kd_X12.2.2.2 555 = some (2, 2, 1, [(11, 192)], 0) := rfl
theorem cl_X12_c574 : ylk kd_X12.2.2.2 574 = some (2, 2, 0, [], 193) := rfl
theorem cl_X12_c586 : ylk kd_X12.2.2.2 586 = some (3, 2, 0, [], 194) := rfl
theorem cl_X12_c603 : ylk kd_X12.2.2.2 603 = some (1, 1, 1, [(11, 196)], 0) := rfl
theorem cl_X12_c612 : ylk kd_X12.2.2.2 612 = some (1, 1, 1, [(11, 197)], 0) := rfl
theorem cl_X12_c621 : ylk kd_X12.2.2.2 621 = some (1, 1, 1, [(11, 198)], 0) := rfl
theorem cl_X12_c630 : ylk kd_X12.2.2.2 630 = some (2, 1, 1, [(11, 200)], 0) := rfl
theorem cl_X12_c640 : ylk kd_X12.2.2.2 640 = some (2, 1, 0, [], 202) := rfl
theorem cl_X12_c649 : ylk kd_X12.2.2.2 649 = some (2, 1, 0, [], 203) := rfl
theorem cl_X12_c658 : ylk kd_X12.2.2.2 658 = some (1, 1, 0, [], 204) := rfl
theorem cl_X12_c666 : ylk kd_X12.2.2.2 666 = some (3, 1, 1, [(11, 206)], 0) := rfl
theorem cl_X12_c676 : ylk kd_X12.2.2.2 676 = some (2, 1, 0, [], 147) := rfl
theorem cl_X12_c684 : ylk kd_X12.2.2.2 684 = some (4, 1, 1, [(11, 208)], 0) := rfl
theorem cl_X12_c693 : ylk kd_X12.2.2.2 693 = some (1, 0, 1, [(11, 209)], 0) := rfl
theorem cl_X12_c702 : ylk kd_X12.2.2.2 702 = some (3, 1, 1, [(11, 210)], 0) := rfl
theorem cl_X12_c715 : ylk kd_X12.2.2.2 715 = some (1, 1, 0, [], 213) := rfl
theorem cl_X12_c723 : ylk kd_X12.2.2.2 723 = some (2, 1, 1, [(11, 215)], 0) := rfl
theorem cl_X12_c732 : ylk kd_X12.2.2.2 732 = some (7, 1, 1, [(11, 216)], 0) := rfl
theorem cl_X12_c745 : ylk kd_X12.2.2.2 745 = some (1, 1, 0, [], 148) := rfl
theorem cl_X12_c753 : ylk kd_X12.2.2.2 753 = some (1, 1, 1, [(11, 219)], 0) := rfl
theorem cl_X12_c780 : ylk kd_X12.2.2.2 780 = some (2, 1, 1, [(11, 223)], 0) := rfl
theorem cl_X12_c811 : ylk kd_X12.2.2.2 811 = some (1, 1, 0, [], 229) := rfl
theorem cl_X12_c820 : ylk kd_X12.2.2.2 820 = some (2, 1, 0, [], 237) := rfl
theorem cl_L_c63 : ylk kd_L.2.2.2 63 = some (2, 1, 1, [(10, 72)], 0) := rfl
theorem cl_L_c75 : ylk kd_L.2.2.2 75 = some (2, 1, 1, [(11, 168)], 0) := rfl
theorem cl_L_c78 : ylk kd_L.2.2.2 78 = some (3, 1, 1, [(10, 73)], 0) := rfl
theorem cl_L_c90 : ylk kd_L.2.2.2 90 = some (3, 1, 1, [(11, 170)], 0) := rfl
theorem cl_L_c93 : ylk kd_L.2.2.2 93 = some (3, 1, 1, [(10, 74)], 0) := rfl
theorem cl_L_c102 : ylk kd_L.2.2.2 102 = some (3, 1, 1, [(11, 171)], 0) := rfl
theorem cl_L_c105 : ylk kd_L.2.2.2 105 = some (2, 1, 1, [(10, 75)], 0) := rfl
theorem cl_L_c114 : ylk kd_L.2.2.2 114 = some (2, 1, 1, [(11, 172)], 0) := rfl
theorem cl_L_c117 : ylk kd_L.2.2.2 117 = some (5, 1, 1, [(10, 76)], 0) := rfl
theorem cl_L_c129 : ylk kd_L.2.2.2 129 = some (5, 1, 1, [(11, 173)], 0) := rfl
theorem cl_L_c132 : ylk kd_L.2.2.2 132 = some (3, 1, 1, [(10, 77)], 0) := rfl
theorem cl_L_c141 : ylk kd_L.2.2.2 141 = some (3, 1, 1, [(11, 174)], 0) := rfl
theorem cl_L_c144 : ylk kd_L.2.2.2 144 = some (2, 1, 1, [(10, 78)], 0) := rfl
theorem cl_L_c153 : ylk kd_L.2.2.2 153 = some (2, 1, 1, [(11, 175)], 0) := rfl
theorem cl_L_c156 : ylk kd_L.2.2.2 156 = some (2, 1, 1, [(10, 79)], 0) := rfl
theorem cl_L_c165 : ylk kd_L.2.2.2 165 = some (2, 1, 1, [(11, 176)], 0) := rfl
theorem cl_L_c168 : ylk kd_L.2.2.2 168 = some (3, 1, 1, [(10, 80)], 0) := rfl
theorem cl_L_c177 : ylk kd_L.2.2.2 177 = some (3, 1, 1, [(11, 179)], 0) := rfl
theorem cl_L_c180 : ylk kd_L.2.2.2 180 = some (3, 1, 1, [(10, 81)], 0) := rfl
theorem cl_L_c189 : ylk kd_L.2.2.2 189 = some (3, 1, 1, [(11, 180)], 0) := rfl
theorem cl_L_c192 : ylk kd_L.2.2.2 192 = some (2, 1, 1, [(10, 82)], 0) := rfl
theorem cl_L_c201 : ylk kd_L.2.2.2 201 = some (2, 1, 1, [(11, 181)], 0) := rfl
theorem cl_L_c204 : ylk kd_L.2.2.2 204 = some (2, 1, 1, [(10, 83)], 0) := rfl
theorem cl_L_c213 : ylk kd_L.2.2.2 213 = some (2, 1, 1, [(11, 182)], 0) := rfl
theorem cl_L_c216 : ylk kd_L.2.2.2 216 = some (3, 1, 1, [(10, 84)], 0) := rfl
theorem cl_L_c225 : ylk kd_L.2.2.2 225 = some (3, 1, 1, [(11, 183)], 0) := rfl
theorem cl_L_c228 : ylk kd_L.2.2.2 228 = some (2, 1, 1, [(10, 87)], 0) := rfl
theorem cl_L_c237 : ylk kd_L.2.2.2 237 = some (2, 1, 1, [(11, 184)], 0) := rfl
theorem cl_L_c240 : ylk kd_L.2.2.2 240 = some (3, 1, 1, [(10, 88)], 0) := rfl
theorem cl_L_c249 : ylk kd_L.2.2.2 249 = some (3, 1, 1, [(11, 186)], 0) := rfl
theorem cl_L_c252 : ylk kd_L.2.2.2 252 = some (3, 1, 1, [(10, 89)], 0) := rfl
theorem cl_L_c261 : ylk kd_L.2.2.2 261 = some (3, 1, 1, [(11, 187)], 0) := rfl
theorem cl_L_c264 : ylk kd_L.2.2.2 264 = some (3, 1, 1, [(10, 90)], 0) := rfl
theorem cl_L_c273 : ylk kd_L.2.2.2 273 = some (3, 1, 1, [(11, 188)], 0) := rfl
theorem cl_L_c276 : ylk kd_L.2.2.2 276 = some (3, 1, 1, [(10, 92)], 0) := rfl
theorem cl_L_c285 : ylk kd_L.2.2.2 285 = some (3, 1, 1, [(11, 191)], 0) := rfl
theorem cl_L_c288 : ylk kd_L.2.2.2 288 = some (3, 2, 1, [(10, 93)], 0) := rfl
theorem cl_L_c297 : ylk kd_L.2.2.2 297 = some (3, 2, 1, [(11, 195)], 0) := rfl
theorem cl_L_c300 : ylk kd_L.2.2.2 300 = some (2, 1, 1, [(10, 94)], 0) := rfl
theorem cl_L_c309 : ylk kd_L.2.2.2 309 = some (2, 1, 1, [(11, 199)], 0) := rfl
theorem cl_L_c312 : ylk kd_L.2.2.2 312 = some (2, 1, 1, [(10, 97)], 0) := rfl
theorem cl_L_c321 : ylk kd_L.2.2.2 321 = some (2, 1, 1, [(11, 201)], 0) := rfl
theorem cl_L_c324 : ylk kd_L.2.2.2 324 = some (2, 1, 1, [(10, 103)], 0) := rfl
theorem cl_L_c333 : ylk kd_L.2.2.2 333 = some (2, 1, 1, [(11, 205)], 0) := rfl
theorem cl_L_c336 : ylk kd_L.2.2.2 336 = some (2, 1, 1, [(10, 104)], 0) := rfl
theorem cl_L_c345 : ylk kd_L.2.2.2 345 = some (2, 1, 1, [(11, 207)], 0) := rfl
theorem cl_L_c348 : ylk kd_L.2.2.2 348 = some (2, 1, 1, [(10, 105)], 0) := rfl
theorem cl_L_c357 : ylk kd_L.2.2.2 357 = some (2, 1, 1, [(11, 211)], 0) := rfl
theorem cl_L_c360 : ylk kd_L.2.2.2 360 = some (2, 1, 1, [(10, 111)], 0) := rfl
theorem cl_L_c369 : ylk kd_L.2.2.2 369 = some (2, 1, 1, [(11, 212)], 0) := rfl
theorem cl_L_c372 : ylk kd_L.2.2.2 372 = some (4, 1, 1, [(10, 112)], 0) := rfl
theorem cl_L_c384 : ylk kd_L.2.2.2 384 = some (4, 1, 1, [(11, 214)], 0) := rfl
theorem cl_L_c387 : ylk kd_L.2.2.2 387 = some (3, 1, 1, [(10, 116)], 0) := rfl
theorem cl_L_c396 : ylk kd_L.2.2.2 396 = some (3, 1, 1, [(11, 217)], 0) := rfl
theorem cl_L_c399 : ylk kd_L.2.2.2 399 = some (5, 2, 1, [(10, 118)], 0) := rfl
theorem cl_L_c411 : ylk kd_L.2.2.2 411 = some (5, 2, 1, [(11, 218)], 0) := rfl
theorem cl_L_c414 : ylk kd_L.2.2.2 414 = some (2, 2, 1, [(10, 121)], 0) := rfl
theorem cl_L_c426 : ylk kd_L.2.2.2 426 = some (2, 2, 1, [(11, 220)], 0) := rfl
theorem cl_L_c429 : ylk kd_L.2.2.2 429 = some (2, 1, 1, [(10, 122)], 0) := rfl
theorem cl_L_c438 : ylk kd_L.2.2.2 438 = some (2, 1, 1, [(11, 221)], 0) := rfl
theorem cl_L_c441 : ylk kd_L.2.2.2 441 = some (2, 1, 1, [(10, 123)], 0) := rfl
theorem cl_L_c450 : ylk kd_L.2.2.2 450 = some (2, 1, 1, [(11, 222)], 0) := rfl
theorem cl_L_c453 : ylk kd_L.2.2.2 453 = some (4, 1, 1, [(10, 124)], 0) := rfl
theorem cl_L_c462 : ylk kd_L.2.2.2 462 = some (4, 1, 1, [(11, 224)], 0) := rfl
theorem cl_L_c465 : ylk kd_L.2.2.2 465 = some (1, 1, 1, [(10, 125)], 0) := rfl
theorem cl_L_c477 : ylk kd_L.2.2.2 477 = some (1, 1, 1, [(11, 225)], 0) := rfl
theorem cl_L_c480 : ylk kd_L.2.2.2 480 = some (1, 1, 1, [(10, 126)], 0) := rfl
theorem cl_L_c489 : ylk kd_L.2.2.2 489 = some (1, 1, 1, [(11, 226)], 0) := rfl
theorem cl_L_c492 : ylk kd_L.2.2.2 492 = some (2, 1, 1, [(10, 127)], 0) := rfl
theorem cl_L_c501 : ylk kd_L.2.2.2 501 = some (2, 1, 1, [(11, 227)], 0) := rfl
theorem cl_L_c504 : ylk kd_L.2.2.2 504 = some (5, 1, 1, [(10, 128)], 0) := rfl
theorem cl_L_c513 : ylk kd_L.2.2.2 513 = some (5, 1, 1, [(11, 232)], 0) := rfl
theorem cl_L_c516 : ylk kd_L.2.2.2 516 = some (4, 1, 1, [(10, 129)], 0) := rfl
theorem cl_L_c525 : ylk kd_L.2.2.2 525 = some (4, 1, 1, [(11, 233)], 0) := rfl
theorem cl_L_c528 : ylk kd_L.2.2.2 528 = some (4, 1, 1, [(10, 130)], 0) := rfl
theorem cl_L_c537 : ylk kd_L.2.2.2 537 = some (4, 1, 1, [(11, 234)], 0) := rfl
theorem cl_L_c541 : ylk kd_L.2.2.2 541 = some (4, 1, 0, [], 901) := rfl
theorem cl_L_c555 : ylk kd_L.2.2.2 555 = some (3, 2, 1, [(11, 235)], 0) := rfl
theorem cl_L_c558 : ylk kd_L.2.2.2 558 = some (1, 1, 1, [(11, 228)], 0) := rfl
theorem cl_L_c567 : ylk kd_L.2.2.2 567 = some (6, 1, 1, [(10, 131)], 0) := rfl
theorem cl_L_c579 : ylk kd_L.2.2.2 579 = some (6, 1, 1, [(11, 236)], 0) := rfl
theorem cl_L_c582 : ylk kd_L.2.2.2 582 = some (2, 1, 1, [(10, 132)], 0) := rfl
theorem cl_L_c591 : ylk kd_L.2.2.2 591 = some (2, 1, 1, [(11, 238)], 0) := rfl
theorem cl_L_c594 : ylk kd_L.2.2.2 594 = some (2, 1, 1, [(10, 133)], 0) := rfl
theorem cl_L_c603 : ylk kd_L.2.2.2 603 = some (2, 1, 1, [(11, 239)], 0) := rfl
theorem kb_m128 : (Int8.ofInt (-128)).toInt32 = (-128 : Int32) := by decide +kernel
theorem kb_m15 : (Int8.ofInt (-15)).toInt32 = (-15 : Int32) := by decide +kernel
theorem kb_m14 : (Int8.ofInt (-14)).toInt32 = (-14 : Int32) := by decide +kernel
theorem kb_m13 : (Int8.ofInt (-13)).toInt32 = (-13 : Int32) := by decide +kernel
theorem kb_m12 : (Int8.ofInt (-12)).toInt32 = (-12 : Int32) := by decide +kernel
theorem kb_m11 : (Int8.ofInt (-11)).toInt32 = (-11 : Int32) := by decide +kernel
theorem kb_m4 : (Int8.ofInt (-4)).toInt32 = (-4 : Int32) := by decide +kernel
theorem kb_m3 : (Int8.ofInt (-3)).toInt32 = (-3 : Int32) := by decide +kernel
theorem kb_m2 : (Int8.ofInt (-2)).toInt32 = (-2 : Int32) := by decide +kernel
theorem kb_6 : (Int8.ofInt (6)).toInt32 = (6 : Int32) := by decide +kernel
theorem kb_7 : (Int8.ofInt (7)).toInt32 = (7 : Int32) := by decide +kernel
theorem kb_8 : (Int8.ofInt (8)).toInt32 = (8 : Int32) := by decide +kernel
theorem kb_9 : (Int8.ofInt (9)).toInt32 = (9 : Int32) := by decide +kernel
theorem kb_10 : (Int8.ofInt (10)).toInt32 = (10 : Int32) := by decide +kernel
theorem kb_12 : (Int8.ofInt (12)).toInt32 = (12 : Int32) := by decide +kernel
theorem kb_20 : (Int8.ofInt (20)).toInt32 = (20 : Int32) := by decide +kernel
theorem kb_21 : (Int8.ofInt (21)).toInt32 = (21 : Int32) := by decide +kernel
theorem kb_48 : (Int8.ofInt (48)).toInt32 = (48 : Int32) := by decide +kernel
theorem kb_57 : (Int8.ofInt (57)).toInt32 = (57 : Int32) := by decide +kernel
theorem kb_59 : (Int8.ofInt (59)).toInt32 = (59 : Int32) := by decide +kernel
theorem kb_60 : (Int8.ofInt (60)).toInt32 = (60 : Int32) := by decide +kernel
theorem kb_64 : (Int8.ofInt (64)).toInt32 = (64 : Int32) := by decide +kernel
theorem kb_81 : (Int8.ofInt (81)).toInt32 = (81 : Int32) := by decide +kernel
theorem kb_99 : (Int8.ofInt (99)).toInt32 = (99 : Int32) := by decide +kernel
theorem kb_100 : (Int8.ofInt (100)).toInt32 = (100 : Int32) := by decide +kernel
theorem ki_m1 : Int32.ofInt (-1) = (-1 : Int32) := by decide +kernel
theorem ki_0 : Int32.ofInt (0) = (0 : Int32) := by decide +kernel
theorem ki_1 : Int32.ofInt (1) = (1 : Int32) := by decide +kernel
theorem ki_2 : Int32.ofInt (2) = (2 : Int32) := by decide +kernel
theorem ki_3 : Int32.ofInt (3) = (3 : Int32) := by decide +kernel
theorem ki_4 : Int32.ofInt (4) = (4 : Int32) := by decide +kernel
theorem ki_5 : Int32.ofInt (5) = (5 : Int32) := by decide +kernel
theorem ki_6 : Int32.ofInt (6) = (6 : Int32) := by decide +kernel
theorem ki_7 : Int32.ofInt (7) = (7 : Int32) := by decide +kernel
theorem ki_99 : Int32.ofInt (99) = (99 : Int32) := by decide +kernel
theorem ki_100 : Int32.ofInt (100) = (100 : Int32) := by decide +kernel
theorem ki_101 : Int32.ofInt (101) = (101 : Int32) := by decide +kernel
theorem ki_115 : Int32.ofInt (115) = (115 : Int32) := by decide +kernel
theorem ki_119 : Int32.ofInt (119) = (119 : Int32) := by decide +kernel
theorem kl_0 : Int64.ofNat ((0 : Fin 2) : Nat) = (0 : Int64) := by decide +kernel
theorem kl_1 : Int64.ofNat ((1 : Fin 2) : Nat) = (1 : Int64) := by decide +kernel
theorem ks_m32768 : (Int16.ofInt (-32768)).toInt32 = (-32768 : Int32) := by decide +kernel
theorem ks_m2000 : (Int16.ofInt (-2000)).toInt32 = (-2000 : Int32) := by decide +kernel
theorem ks_m1000 : (Int16.ofInt (-1000)).toInt32 = (-1000 : Int32) := by decide +kernel
theorem ks_200 : (Int16.ofInt (200)).toInt32 = (200 : Int32) := by decide +kernel
theorem ks_255 : (Int16.ofInt (255)).toInt32 = (255 : Int32) := by decide +kernel
theorem ks_600 : (Int16.ofInt (600)).toInt32 = (600 : Int32) := by decide +kernel
theorem ks_999 : (Int16.ofInt (999)).toInt32 = (999 : Int32) := by decide +kernel
theorem ks_2048 : (Int16.ofInt (2048)).toInt32 = (2048 : Int32) := by decide +kernel
theorem ks_12345 : (Int16.ofInt (12345)).toInt32 = (12345 : Int32) := by decide +kernel
