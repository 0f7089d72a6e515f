def TCl : List (Nat × Ck) := [(0, (0, 11, [(2, 1), (2, 14), (2, 25), (2, 273), (2, 283), (2, 291), (2, 299), (2, 304), (2, 310), (2, 676), (2, 678)])), (1, (0, 5, [(0, 0), (0, 0), (2, 2), (2, 3), (2, 4), (2, 5), (2, 6), (2, 7), (2, 8), (2, 9), (2, 10), (2, 11), (2, 12), (2, 13)])), (2, (1, 10, [])), (3, (1, 10, [])), (4, (1, 30, [])), (5, (1, 10, [])), (6, (1, 30, [])), (7, (1, 10, [])), (8, (1, 30, [])), (9, (1, 10, [])), (10, (1, 30, [])), (11, (1, 10, [])), (12, (1, 10, [])), (13, (1, 6, [])), (14, (0, 0, [(0, 0), (0, 0), (0, 0), (0, 0), (0, 0), (0, 0), (2, 15), (2, 16), (2, 17), (2, 18), (2, 19), (2, 20), (2, 21)])), (15, (1, 8, [])), (16, (1, 8, [])), (17, (1, 8, [])), (18, (1, 8, [])), (19, (1, 8, [])), (20, (1, 8, [])), (21, (1, 8, [])), (22, (0, 10, [(2, 1), (2, 23), (2, 24)])), (23, (1, 40, [])), (24, (1, 120, [])), (25, (0, 1, [(0, 0), (2, 26), (2, 27), (2, 1), (2, 22), (2, 28), (2, 29), (2, 30), (2, 31), (2, 32)])), (26, (5, 30, [(33, 8)])), (27, (2, 4, [])), (28, (1, 240, [])), (29, (1, 240, [])), (30, (1, 240, [])), (31, (1, 60, [])), (32, (1, 30, [])), (273, (0, 9, [(0, 0), (2, 1), (2, 274), (2, 275), (2, 276), (0, 0), (0, 0), (2, 277), (2, 278), (2, 279), (2, 280), (2, 281), (2, 282)])), (274, (1, 12, [])), (275, (1, 1690, [])), (276, (1, 1690, [])), (277, (1, 90, [])), (278, (1, 90, [])), (279, (1, 90, [])), (280, (1, 90, [])), (281, (1, 90, [])), (282, (1, 4, [])), (283, (0, 8, [(0, 0), (0, 0), (2, 284), (2, 285), (2, 286), (2, 287), (2, 288), (2, 289), (2, 290)])), (284, (1, 30, [])), (285, (1, 30, [])), (286, (1, 30, [])), (287, (1, 30, [])), (288, (1, 90, [])), (289, (1, 30, [])), (290, (1, 30, [])), (291, (0, 8, [(0, 0), (0, 0), (2, 292), (2, 293), (2, 294), (2, 295), (2, 296), (2, 297), (2, 298)])), (292, (1, 30, [])), (293, (1, 30, [])), (294, (1, 30, [])), (295, (1, 30, [])), (296, (1, 90, [])), (297, (1, 30, [])), (298, (1, 30, [])), (299, (0, 3, [(0, 0), (2, 300), (2, 301), (2, 302), (2, 303)])), (300, (1, 180, [])), (301, (1, 180, [])), (302, (1, 180, [])), (303, (1, 180, [])), (304, (0, 3, [(0, 0), (2, 305), (2, 306), (2, 307), (2, 308)])), (305, (1, 180, [])), (306, (1, 180, [])), (307, (1, 180, [])), (308, (1, 180, [])), (309, (1, 180, [])), (310, (0, 2, [(0, 0), (2, 311), (2, 1), (2, 25), (2, 22), (2, 283), (2, 309), (2, 312), (2, 313), (0, 0), (0, 0), (1, 0), (3, 0)])), (311, (1, 180, [])), (312, (7, 181, [(314, 2)])), (313, (2, 180, [])), (676, (0, 7, [(2, 1), (2, 283), (2, 310), (2, 304), (2, 309), (2, 677), (1, 0)])), (677, (1, 180, [])), (678, (0, 6, [(2, 1), (2, 25), (2, 22), (2, 679), (2, 680)])), (679, (1, 24, [])), (680, (1, 24, []))]
def TC (k : Nat) : Ck := if 33 ≤ k ∧ k < 273 then (if (k - 33) % 8 = 0 then (0, 0, [(0, 0), (0, 0), (0, 0), (0, 0), (0, 0), (0, 0), (2, k + 1), (2, k + 2), (2, k + 3), (2, k + 4), (2, k + 5), (2, k + 6), (2, k + 7)]) else (1, 8, [])) else if 314 ≤ k ∧ k < 676 then (if (k - 314) % 2 = 0 then (0, 4, [(0, 0), (0, 0), (0, 0), (0, 0), (0, 0), (3, 0), (0, 0), (0, 0), (0, 0), (1, 0), (0, 0), (1, 0), (0, 0), (2, k + 1)]) else (1, 8, [])) else (TCl.lookup k).getD (9, 0, [])
theorem tc0 : TC 0 = (0, 11, [(2, 1), (2, 14), (2, 25), (2, 273), (2, 283), (2, 291), (2, 299), (2, 304), (2, 310), (2, 676), (2, 678)]) := by decide +kernel
theorem tcn0 : 0 < 681 := Nat.le_of_ble_eq_true rfl
theorem tc1 : TC 1 = (0, 5, [(0, 0), (0, 0), (2, 2), (2, 3), (2, 4), (2, 5), (2, 6), (2, 7), (2, 8), (2, 9), (2, 10), (2, 11), (2, 12), (2, 13)]) := by decide +kernel
theorem tcn1 : 1 < 681 := Nat.le_of_ble_eq_true rfl
theorem tc2 : TC 2 = (1, 10, []) := by decide +kernel
theorem tcn2 : 2 < 681 := Nat.le_of_ble_eq_true rfl
theorem tc3 : TC 3 = (1, 10, []) := by decide +kernel
theorem tcn3 : 3 < 681 := Nat.le_of_ble_eq_true rfl
theorem tc4 : TC 4 = (1, 30, []) := by decide +kernel
theorem tcn4 : 4 < 681 := Nat.le_of_ble_eq_true rfl
theorem tc5 : TC 5 = (1, 10, []) := by decide +kernel
theorem tcn5 : 5 < 681 := Nat.le_of_ble_eq_true rfl
theorem tc6 : TC 6 = (1, 30, []) := by decide +kernel
theorem tcn6 : 6 < 681 := Nat.le_of_ble_eq_true rfl
theorem tc7 : TC 7 = (1, 10, []) := by decide +kernel
theorem tcn7 : 7 < 681 := Nat.le_of_ble_eq_true rfl
theorem tc8 : TC 8 = (1, 30, []) := by decide +kernel
theorem tcn8 : 8 < 681 := Nat.le_of_ble_eq_true rfl
theorem tc9 : TC 9 = (1, 10, []) := by decide +kernel
theorem tcn9 : 9 < 681 := Nat.le_of_ble_eq_true rfl
theorem tc10 : TC 10 = (1, 30, []) := by decide +kernel
theorem tcn10 : 10 < 681 := Nat.le_of_ble_eq_true rfl
theorem tc11 : TC 11 = (1, 10, []) := by decide +kernel
theorem tcn11 : 11 < 681 := Nat.le_of_ble_eq_true rfl
theorem tc12 : TC 12 = (1, 10, []) := by decide +kernel
theorem tcn12 : 12 < 681 := Nat.le_of_ble_eq_true rfl
theorem tc13 : TC 13 = (1, 6, []) := by decide +kernel
theorem tcn13 : 13 < 681 := Nat.le_of_ble_eq_true rfl
theorem tc14 : TC 14 = (0, 0, [(0, 0), (0, 0), (0, 0), (0, 0), (0, 0), (0, 0), (2, 15), (2, 16), (2, 17), (2, 18), (2, 19), (2, 20), (2, 21)]) := by decide +kernel
theorem tcn14 : 14 < 681 := Nat.le_of_ble_eq_true rfl
theorem tc15 : TC 15 = (1, 8, []) := by decide +kernel
theorem tcn15 : 15 < 681 := Nat.le_of_ble_eq_true rfl
theorem tc16 : TC 16 = (1, 8, []) := by decide +kernel
theorem tcn16 : 16 < 681 := Nat.le_of_ble_eq_true rfl
theorem tc17 : TC 17 = (1, 8, []) := by decide +kernel
theorem tcn17 : 17 < 681 := Nat.le_of_ble_eq_true rfl
theorem tc18 : TC 18 = (1, 8, []) := by decide +kernel
theorem tcn18 : 18 < 681 := Nat.le_of_ble_eq_true rfl
theorem tc19 : TC 19 = (1, 8, []) := by decide +kernel
theorem tcn19 : 19 < 681 := Nat.le_of_ble_eq_true rfl
theorem tc20 : TC 20 = (1, 8, []) := by decide +kernel
theorem tcn20 : 20 < 681 := Nat.le_of_ble_eq_true rfl
theorem tc21 : TC 21 = (1, 8, []) := by decide +kernel
theorem tcn21 : 21 < 681 := Nat.le_of_ble_eq_true rfl
theorem tc22 : TC 22 = (0, 10, [(2, 1), (2, 23), (2, 24)]) := by decide +kernel
theorem tcn22 : 22 < 681 := Nat.le_of_ble_eq_true rfl
theorem tc23 : TC 23 = (1, 40, []) := by decide +kernel
theorem tcn23 : 23 < 681 := Nat.le_of_ble_eq_true rfl
theorem tc24 : TC 24 = (1, 120, []) := by decide +kernel
theorem tcn24 : 24 < 681 := Nat.le_of_ble_eq_true rfl
theorem tc25 : TC 25 = (0, 1, [(0, 0), (2, 26), (2, 27), (2, 1), (2, 22), (2, 28), (2, 29), (2, 30), (2, 31), (2, 32)]) := by decide +kernel
theorem tcn25 : 25 < 681 := Nat.le_of_ble_eq_true rfl
theorem tc26 : TC 26 = (5, 30, [(33, 8)]) := by decide +kernel
theorem tcn26 : 26 < 681 := Nat.le_of_ble_eq_true rfl
theorem tc27 : TC 27 = (2, 4, []) := by decide +kernel
theorem tcn27 : 27 < 681 := Nat.le_of_ble_eq_true rfl
theorem tc28 : TC 28 = (1, 240, []) := by decide +kernel
theorem tcn28 : 28 < 681 := Nat.le_of_ble_eq_true rfl
theorem tc29 : TC 29 = (1, 240, []) := by decide +kernel
theorem tcn29 : 29 < 681 := Nat.le_of_ble_eq_true rfl
theorem tc30 : TC 30 = (1, 240, []) := by decide +kernel
theorem tcn30 : 30 < 681 := Nat.le_of_ble_eq_true rfl
theorem tc31 : TC 31 = (1, 60, []) := by decide +kernel
theorem tcn31 : 31 < 681 := Nat.le_of_ble_eq_true rfl
theorem tc32 : TC 32 = (1, 30, []) := by decide +kernel
theorem tcn32 : 32 < 681 := Nat.le_of_ble_eq_true rfl
theorem tc273 : TC 273 = (0, 9, [(0, 0), (2, 1), (2, 274), (2, 275), (2, 276), (0, 0), (0, 0), (2, 277), (2, 278), (2, 279), (2, 280), (2, 281), (2, 282)]) := by decide +kernel
theorem tcn273 : 273 < 681 := Nat.le_of_ble_eq_true rfl
theorem tc274 : TC 274 = (1, 12, []) := by decide +kernel
theorem tcn274 : 274 < 681 := Nat.le_of_ble_eq_true rfl
theorem tc275 : TC 275 = (1, 1690, []) := by decide +kernel
theorem tcn275 : 275 < 681 := Nat.le_of_ble_eq_true rfl
theorem tc276 : TC 276 = (1, 1690, []) := by decide +kernel
theorem tcn276 : 276 < 681 := Nat.le_of_ble_eq_true rfl
theorem tc277 : TC 277 = (1, 90, []) := by decide +kernel
theorem tcn277 : 277 < 681 := Nat.le_of_ble_eq_true rfl
theorem tc278 : TC 278 = (1, 90, []) := by decide +kernel
theorem tcn278 : 278 < 681 := Nat.le_of_ble_eq_true rfl
theorem tc279 : TC 279 = (1, 90, []) := by decide +kernel
theorem tcn279 : 279 < 681 := Nat.le_of_ble_eq_true rfl
theorem tc280 : TC 280 = (1, 90, []) := by decide +kernel
theorem tcn280 : 280 < 681 := Nat.le_of_ble_eq_true rfl
theorem tc281 : TC 281 = (1, 90, []) := by decide +kernel
theorem tcn281 : 281 < 681 := Nat.le_of_ble_eq_true rfl
theorem tc282 : TC 282 = (1, 4, []) := by decide +kernel
theorem tcn282 : 282 < 681 := Nat.le_of_ble_eq_true rfl
theorem tc283 : TC 283 = (0, 8, [(0, 0), (0, 0), (2, 284), (2, 285), (2, 286), (2, 287), (2, 288), (2, 289), (2, 290)]) := by decide +kernel
theorem tcn283 : 283 < 681 := Nat.le_of_ble_eq_true rfl
theorem tc284 : TC 284 = (1, 30, []) := by decide +kernel
theorem tcn284 : 284 < 681 := Nat.le_of_ble_eq_true rfl
theorem tc285 : TC 285 = (1, 30, []) := by decide +kernel
theorem tcn285 : 285 < 681 := Nat.le_of_ble_eq_true rfl
theorem tc286 : TC 286 = (1, 30, []) := by decide +kernel
theorem tcn286 : 286 < 681 := Nat.le_of_ble_eq_true rfl
theorem tc287 : TC 287 = (1, 30, []) := by decide +kernel
theorem tcn287 : 287 < 681 := Nat.le_of_ble_eq_true rfl
theorem tc288 : TC 288 = (1, 90, []) := by decide +kernel
theorem tcn288 : 288 < 681 := Nat.le_of_ble_eq_true rfl
theorem tc289 : TC 289 = (1, 30, []) := by decide +kernel
theorem tcn289 : 289 < 681 := Nat.le_of_ble_eq_true rfl
theorem tc290 : TC 290 = (1, 30, []) := by decide +kernel
theorem tcn290 : 290 < 681 := Nat.le_of_ble_eq_true rfl
theorem tc291 : TC 291 = (0, 8, [(0, 0), (0, 0), (2, 292), (2, 293), (2, 294), (2, 295), (2, 296), (2, 297), (2, 298)]) := by decide +kernel
theorem tcn291 : 291 < 681 := Nat.le_of_ble_eq_true rfl
theorem tc292 : TC 292 = (1, 30, []) := by decide +kernel
theorem tcn292 : 292 < 681 := Nat.le_of_ble_eq_true rfl
theorem tc293 : TC 293 = (1, 30, []) := by decide +kernel
theorem tcn293 : 293 < 681 := Nat.le_of_ble_eq_true rfl
theorem tc294 : TC 294 = (1, 30, []) := by decide +kernel
theorem tcn294 : 294 < 681 := Nat.le_of_ble_eq_true rfl
theorem tc295 : TC 295 = (1, 30, []) := by decide +kernel
theorem tcn295 : 295 < 681 := Nat.le_of_ble_eq_true rfl
theorem tc296 : TC 296 = (1, 90, []) := by decide +kernel
theorem tcn296 : 296 < 681 := Nat.le_of_ble_eq_true rfl
theorem tc297 : TC 297 = (1, 30, []) := by decide +kernel
theorem tcn297 : 297 < 681 := Nat.le_of_ble_eq_true rfl
theorem tc298 : TC 298 = (1, 30, []) := by decide +kernel
theorem tcn298 : 298 < 681 := Nat.le_of_ble_eq_true rfl
theorem tc299 : TC 299 = (0, 3, [(0, 0), (2, 300), (2, 301), (2, 302), (2, 303)]) := by decide +kernel
theorem tcn299 : 299 < 681 := Nat.le_of_ble_eq_true rfl
theorem tc300 : TC 300 = (1, 180, []) := by decide +kernel
theorem tcn300 : 300 < 681 := Nat.le_of_ble_eq_true rfl
theorem tc301 : TC 301 = (1, 180, []) := by decide +kernel
theorem tcn301 : 301 < 681 := Nat.le_of_ble_eq_true rfl
theorem tc302 : TC 302 = (1, 180, []) := by decide +kernel
theorem tcn302 : 302 < 681 := Nat.le_of_ble_eq_true rfl
theorem tc303 : TC 303 = (1, 180, []) := by decide +kernel
theorem tcn303 : 303 < 681 := Nat.le_of_ble_eq_true rfl
theorem tc304 : TC 304 = (0, 3, [(0, 0), (2, 305), (2, 306), (2, 307), (2, 308)]) := by decide +kernel
theorem tcn304 : 304 < 681 := Nat.le_of_ble_eq_true rfl
theorem tc305 : TC 305 = (1, 180, []) := by decide +kernel
theorem tcn305 : 305 < 681 := Nat.le_of_ble_eq_true rfl
theorem tc306 : TC 306 = (1, 180, []) := by decide +kernel
theorem tcn306 : 306 < 681 := Nat.le_of_ble_eq_true rfl
theorem tc307 : TC 307 = (1, 180, []) := by decide +kernel
theorem tcn307 : 307 < 681 := Nat.le_of_ble_eq_true rfl
theorem tc308 : TC 308 = (1, 180, []) := by decide +kernel
theorem tcn308 : 308 < 681 := Nat.le_of_ble_eq_true rfl
theorem tc309 : TC 309 = (1, 180, []) := by decide +kernel
theorem tcn309 : 309 < 681 := Nat.le_of_ble_eq_true rfl
theorem tc310 : TC 310 = (0, 2, [(0, 0), (2, 311), (2, 1), (2, 25), (2, 22), (2, 283), (2, 309), (2, 312), (2, 313), (0, 0), (0, 0), (1, 0), (3, 0)]) := by decide +kernel
theorem tcn310 : 310 < 681 := Nat.le_of_ble_eq_true rfl
theorem tc311 : TC 311 = (1, 180, []) := by decide +kernel
theorem tcn311 : 311 < 681 := Nat.le_of_ble_eq_true rfl
theorem tc312 : TC 312 = (7, 181, [(314, 2)]) := by decide +kernel
theorem tcn312 : 312 < 681 := Nat.le_of_ble_eq_true rfl
theorem tc313 : TC 313 = (2, 180, []) := by decide +kernel
theorem tcn313 : 313 < 681 := Nat.le_of_ble_eq_true rfl
theorem tc676 : TC 676 = (0, 7, [(2, 1), (2, 283), (2, 310), (2, 304), (2, 309), (2, 677), (1, 0)]) := by decide +kernel
theorem tcn676 : 676 < 681 := Nat.le_of_ble_eq_true rfl
theorem tc677 : TC 677 = (1, 180, []) := by decide +kernel
theorem tcn677 : 677 < 681 := Nat.le_of_ble_eq_true rfl
theorem tc678 : TC 678 = (0, 6, [(2, 1), (2, 25), (2, 22), (2, 679), (2, 680)]) := by decide +kernel
theorem tcn678 : 678 < 681 := Nat.le_of_ble_eq_true rfl
theorem tc679 : TC 679 = (1, 24, []) := by decide +kernel
theorem tcn679 : 679 < 681 := Nat.le_of_ble_eq_true rfl
theorem tc680 : TC 680 = (1, 24, []) := by decide +kernel
theorem tcn680 : 680 < 681 := Nat.le_of_ble_eq_true rfl
def alenC (r : Nat) : Nat := min (TC r).2.1 100000
theorem i32_alenC (r : Nat) : i32 ((alenC r : Nat) : Int) := by unfold alenC i32; omega
def isAC (r : Nat) : Prop := r < 681 ∧ TC r = (1, alenC r, (TC r).2.2)
theorem isAC_2 : isAC 2 := ⟨tcn2, by decide +kernel⟩
theorem alenC_2 : alenC 2 = 10 := by decide +kernel
theorem isAC_3 : isAC 3 := ⟨tcn3, by decide +kernel⟩
theorem alenC_3 : alenC 3 = 10 := by decide +kernel
theorem isAC_4 : isAC 4 := ⟨tcn4, by decide +kernel⟩
theorem alenC_4 : alenC 4 = 30 := by decide +kernel
theorem isAC_5 : isAC 5 := ⟨tcn5, by decide +kernel⟩
theorem alenC_5 : alenC 5 = 10 := by decide +kernel
theorem isAC_6 : isAC 6 := ⟨tcn6, by decide +kernel⟩
theorem alenC_6 : alenC 6 = 30 := by decide +kernel
theorem isAC_7 : isAC 7 := ⟨tcn7, by decide +kernel⟩
theorem alenC_7 : alenC 7 = 10 := by decide +kernel
theorem isAC_8 : isAC 8 := ⟨tcn8, by decide +kernel⟩
theorem alenC_8 : alenC 8 = 30 := by decide +kernel
theorem isAC_9 : isAC 9 := ⟨tcn9, by decide +kernel⟩
theorem alenC_9 : alenC 9 = 10 := by decide +kernel
theorem isAC_10 : isAC 10 := ⟨tcn10, by decide +kernel⟩
theorem alenC_10 : alenC 10 = 30 := by decide +kernel
theorem isAC_11 : isAC 11 := ⟨tcn11, by decide +kernel⟩
theorem alenC_11 : alenC 11 = 10 := by decide +kernel
theorem isAC_12 : isAC 12 := ⟨tcn12, by decide +kernel⟩
theorem alenC_12 : alenC 12 = 10 := by decide +kernel
theorem isAC_13 : isAC 13 := ⟨tcn13, by decide +kernel⟩
theorem alenC_13 : alenC 13 = 6 := by decide +kernel
theorem isAC_15 : isAC 15 := ⟨tcn15, by decide +kernel⟩
theorem alenC_15 : alenC 15 = 8 := by decide +kernel
theorem isAC_16 : isAC 16 := ⟨tcn16, by decide +kernel⟩
theorem alenC_16 : alenC 16 = 8 := by decide +kernel
theorem isAC_17 : isAC 17 := ⟨tcn17, by decide +kernel⟩
theorem alenC_17 : alenC 17 = 8 := by decide +kernel
theorem isAC_18 : isAC 18 := ⟨tcn18, by decide +kernel⟩
theorem alenC_18 : alenC 18 = 8 := by decide +kernel
theorem isAC_19 : isAC 19 := ⟨tcn19, by decide +kernel⟩
theorem alenC_19 : alenC 19 = 8 := by decide +kernel
theorem isAC_20 : isAC 20 := ⟨tcn20, by decide +kernel⟩
theorem alenC_20 : alenC 20 = 8 := by decide +kernel
theorem isAC_21 : isAC 21 := ⟨tcn21, by decide +kernel⟩
theorem alenC_21 : alenC 21 = 8 := by decide +kernel
theorem isAC_23 : isAC 23 := ⟨tcn23, by decide +kernel⟩
theorem alenC_23 : alenC 23 = 40 := by decide +kernel
theorem isAC_24 : isAC 24 := ⟨tcn24, by decide +kernel⟩
theorem alenC_24 : alenC 24 = 120 := by decide +kernel
theorem isAC_28 : isAC 28 := ⟨tcn28, by decide +kernel⟩
theorem alenC_28 : alenC 28 = 240 := by decide +kernel
theorem isAC_29 : isAC 29 := ⟨tcn29, by decide +kernel⟩
theorem alenC_29 : alenC 29 = 240 := by decide +kernel
theorem isAC_30 : isAC 30 := ⟨tcn30, by decide +kernel⟩
theorem alenC_30 : alenC 30 = 240 := by decide +kernel
theorem isAC_31 : isAC 31 := ⟨tcn31, by decide +kernel⟩
theorem alenC_31 : alenC 31 = 60 := by decide +kernel
theorem isAC_32 : isAC 32 := ⟨tcn32, by decide +kernel⟩
theorem alenC_32 : alenC 32 = 30 := by decide +kernel
theorem isAC_274 : isAC 274 := ⟨tcn274, by decide +kernel⟩
theorem alenC_274 : alenC 274 = 12 := by decide +kernel
theorem isAC_275 : isAC 275 := ⟨tcn275, by decide +kernel⟩
theorem alenC_275 : alenC 275 = 1690 := by decide +kernel
theorem isAC_276 : isAC 276 := ⟨tcn276, by decide +kernel⟩
theorem alenC_276 : alenC 276 = 1690 := by decide +kernel
theorem isAC_277 : isAC 277 := ⟨tcn277, by decide +kernel⟩
theorem alenC_277 : alenC 277 = 90 := by decide +kernel
theorem isAC_278 : isAC 278 := ⟨tcn278, by decide +kernel⟩
theorem alenC_278 : alenC 278 = 90 := by decide +kernel
theorem isAC_279 : isAC 279 := ⟨tcn279, by decide +kernel⟩
theorem alenC_279 : alenC 279 = 90 := by decide +kernel
theorem isAC_280 : isAC 280 := ⟨tcn280, by decide +kernel⟩
theorem alenC_280 : alenC 280 = 90 := by decide +kernel
theorem isAC_281 : isAC 281 := ⟨tcn281, by decide +kernel⟩
theorem alenC_281 : alenC 281 = 90 := by decide +kernel
theorem isAC_282 : isAC 282 := ⟨tcn282, by decide +kernel⟩
theorem alenC_282 : alenC 282 = 4 := by decide +kernel
theorem isAC_284 : isAC 284 := ⟨tcn284, by decide +kernel⟩
theorem alenC_284 : alenC 284 = 30 := by decide +kernel
theorem isAC_285 : isAC 285 := ⟨tcn285, by decide +kernel⟩
theorem alenC_285 : alenC 285 = 30 := by decide +kernel
theorem isAC_286 : isAC 286 := ⟨tcn286, by decide +kernel⟩
theorem alenC_286 : alenC 286 = 30 := by decide +kernel
theorem isAC_287 : isAC 287 := ⟨tcn287, by decide +kernel⟩
theorem alenC_287 : alenC 287 = 30 := by decide +kernel
theorem isAC_288 : isAC 288 := ⟨tcn288, by decide +kernel⟩
theorem alenC_288 : alenC 288 = 90 := by decide +kernel
theorem isAC_289 : isAC 289 := ⟨tcn289, by decide +kernel⟩
theorem alenC_289 : alenC 289 = 30 := by decide +kernel
theorem isAC_290 : isAC 290 := ⟨tcn290, by decide +kernel⟩
theorem alenC_290 : alenC 290 = 30 := by decide +kernel
theorem isAC_292 : isAC 292 := ⟨tcn292, by decide +kernel⟩
theorem alenC_292 : alenC 292 = 30 := by decide +kernel
theorem isAC_293 : isAC 293 := ⟨tcn293, by decide +kernel⟩
theorem alenC_293 : alenC 293 = 30 := by decide +kernel
theorem isAC_294 : isAC 294 := ⟨tcn294, by decide +kernel⟩
theorem alenC_294 : alenC 294 = 30 := by decide +kernel
theorem isAC_295 : isAC 295 := ⟨tcn295, by decide +kernel⟩
theorem alenC_295 : alenC 295 = 30 := by decide +kernel
theorem isAC_296 : isAC 296 := ⟨tcn296, by decide +kernel⟩
theorem alenC_296 : alenC 296 = 90 := by decide +kernel
theorem isAC_297 : isAC 297 := ⟨tcn297, by decide +kernel⟩
theorem alenC_297 : alenC 297 = 30 := by decide +kernel
theorem isAC_298 : isAC 298 := ⟨tcn298, by decide +kernel⟩
theorem alenC_298 : alenC 298 = 30 := by decide +kernel
theorem isAC_300 : isAC 300 := ⟨tcn300, by decide +kernel⟩
theorem alenC_300 : alenC 300 = 180 := by decide +kernel
theorem isAC_301 : isAC 301 := ⟨tcn301, by decide +kernel⟩
theorem alenC_301 : alenC 301 = 180 := by decide +kernel
theorem isAC_302 : isAC 302 := ⟨tcn302, by decide +kernel⟩
theorem alenC_302 : alenC 302 = 180 := by decide +kernel
theorem isAC_303 : isAC 303 := ⟨tcn303, by decide +kernel⟩
theorem alenC_303 : alenC 303 = 180 := by decide +kernel
theorem isAC_305 : isAC 305 := ⟨tcn305, by decide +kernel⟩
theorem alenC_305 : alenC 305 = 180 := by decide +kernel
theorem isAC_306 : isAC 306 := ⟨tcn306, by decide +kernel⟩
theorem alenC_306 : alenC 306 = 180 := by decide +kernel
theorem isAC_307 : isAC 307 := ⟨tcn307, by decide +kernel⟩
theorem alenC_307 : alenC 307 = 180 := by decide +kernel
theorem isAC_308 : isAC 308 := ⟨tcn308, by decide +kernel⟩
theorem alenC_308 : alenC 308 = 180 := by decide +kernel
theorem isAC_309 : isAC 309 := ⟨tcn309, by decide +kernel⟩
theorem alenC_309 : alenC 309 = 180 := by decide +kernel
theorem isAC_311 : isAC 311 := ⟨tcn311, by decide +kernel⟩
theorem alenC_311 : alenC 311 = 180 := by decide +kernel
theorem isAC_677 : isAC 677 := ⟨tcn677, by decide +kernel⟩
theorem alenC_677 : alenC 677 = 180 := by decide +kernel
theorem isAC_679 : isAC 679 := ⟨tcn679, by decide +kernel⟩
theorem alenC_679 : alenC 679 = 24 := by decide +kernel
theorem isAC_680 : isAC 680 := ⟨tcn680, by decide +kernel⟩
theorem alenC_680 : alenC 680 = 24 := by decide +kernel
abbrev isE (h : Nat) : Prop := h = 14 ∨ (33 ≤ h ∧ h < 273 ∧ (h - 33) % 8 = 0)
abbrev isT (h : Nat) : Prop := h = 283 ∨ h = 291
abbrev isF (h : Nat) : Prop := h = 299 ∨ h = 304
abbrev isR (h : Nat) : Prop := 314 ≤ h ∧ h < 676 ∧ (h - 314) % 2 = 0
theorem isE_14 : isE 14 := by decide
theorem isT_283 : isT 283 := by decide
theorem isT_291 : isT 291 := by decide
theorem isF_299 : isF 299 := by decide
theorem isF_304 : isF 304 := by decide
theorem isE_row {j : Int} (h : 0 ≤ j ∧ j < ((30 : Nat) : Int)) : isE (33 + 8 * j.toNat) := by right; omega
theorem isR_row {j : Int} (h : 0 ≤ j ∧ j < ((181 : Nat) : Int)) : isR (314 + 2 * j.toNat) := by unfold isR; omega
theorem nE {h : Nat} (z : isE h) : h < 681 := by unfold isE at z; omega
theorem tE {h : Nat} (z : isE h) : TC h = (0, 0, [(0, 0), (0, 0), (0, 0), (0, 0), (0, 0), (0, 0), (2, h + 1), (2, h + 2), (2, h + 3), (2, h + 4), (2, h + 5), (2, h + 6), (2, h + 7)]) := by
  rcases z with rfl | ⟨z1, z2, z3⟩
  · decide +kernel
  · unfold TC; rw [if_pos ⟨z1, z2⟩, if_pos z3]
theorem nEa1 {h : Nat} (z : isE h) : h + 1 < 681 := by unfold isE at z; omega
theorem tEa1 {h : Nat} (z : isE h) : TC (h + 1) = (1, 8, []) := by
  rcases z with rfl | ⟨z1, z2, z3⟩
  · decide +kernel
  · unfold TC; rw [if_pos (by omega), if_neg (by omega)]
theorem alEa1 {h : Nat} (z : isE h) : alenC (h + 1) = 8 := by unfold alenC; rw [tEa1 z]; rfl
theorem isAEa1 {h : Nat} (z : isE h) : isAC (h + 1) := ⟨nEa1 z, by rw [alEa1 z, tEa1 z]⟩
theorem nEa2 {h : Nat} (z : isE h) : h + 2 < 681 := by unfold isE at z; omega
theorem tEa2 {h : Nat} (z : isE h) : TC (h + 2) = (1, 8, []) := by
  rcases z with rfl | ⟨z1, z2, z3⟩
  · decide +kernel
  · unfold TC; rw [if_pos (by omega), if_neg (by omega)]
theorem alEa2 {h : Nat} (z : isE h) : alenC (h + 2) = 8 := by unfold alenC; rw [tEa2 z]; rfl
theorem isAEa2 {h : Nat} (z : isE h) : isAC (h + 2) := ⟨nEa2 z, by rw [alEa2 z, tEa2 z]⟩
theorem nEa3 {h : Nat} (z : isE h) : h + 3 < 681 := by unfold isE at z; omega
theorem tEa3 {h : Nat} (z : isE h) : TC (h + 3) = (1, 8, []) := by
  rcases z with rfl | ⟨z1, z2, z3⟩
  · decide +kernel
  · unfold TC; rw [if_pos (by omega), if_neg (by omega)]
theorem alEa3 {h : Nat} (z : isE h) : alenC (h + 3) = 8 := by unfold alenC; rw [tEa3 z]; rfl
theorem isAEa3 {h : Nat} (z : isE h) : isAC (h + 3) := ⟨nEa3 z, by rw [alEa3 z, tEa3 z]⟩
theorem nEa4 {h : Nat} (z : isE h) : h + 4 < 681 := by unfold isE at z; omega
theorem tEa4 {h : Nat} (z : isE h) : TC (h + 4) = (1, 8, []) := by
  rcases z with rfl | ⟨z1, z2, z3⟩
  · decide +kernel
  · unfold TC; rw [if_pos (by omega), if_neg (by omega)]
theorem alEa4 {h : Nat} (z : isE h) : alenC (h + 4) = 8 := by unfold alenC; rw [tEa4 z]; rfl
theorem isAEa4 {h : Nat} (z : isE h) : isAC (h + 4) := ⟨nEa4 z, by rw [alEa4 z, tEa4 z]⟩
theorem nEa5 {h : Nat} (z : isE h) : h + 5 < 681 := by unfold isE at z; omega
theorem tEa5 {h : Nat} (z : isE h) : TC (h + 5) = (1, 8, []) := by
  rcases z with rfl | ⟨z1, z2, z3⟩
  · decide +kernel
  · unfold TC; rw [if_pos (by omega), if_neg (by omega)]
theorem alEa5 {h : Nat} (z : isE h) : alenC (h + 5) = 8 := by unfold alenC; rw [tEa5 z]; rfl
theorem isAEa5 {h : Nat} (z : isE h) : isAC (h + 5) := ⟨nEa5 z, by rw [alEa5 z, tEa5 z]⟩
theorem nEa6 {h : Nat} (z : isE h) : h + 6 < 681 := by unfold isE at z; omega
theorem tEa6 {h : Nat} (z : isE h) : TC (h + 6) = (1, 8, []) := by
  rcases z with rfl | ⟨z1, z2, z3⟩
  · decide +kernel
  · unfold TC; rw [if_pos (by omega), if_neg (by omega)]
theorem alEa6 {h : Nat} (z : isE h) : alenC (h + 6) = 8 := by unfold alenC; rw [tEa6 z]; rfl
theorem isAEa6 {h : Nat} (z : isE h) : isAC (h + 6) := ⟨nEa6 z, by rw [alEa6 z, tEa6 z]⟩
theorem nEa7 {h : Nat} (z : isE h) : h + 7 < 681 := by unfold isE at z; omega
theorem tEa7 {h : Nat} (z : isE h) : TC (h + 7) = (1, 8, []) := by
  rcases z with rfl | ⟨z1, z2, z3⟩
  · decide +kernel
  · unfold TC; rw [if_pos (by omega), if_neg (by omega)]
theorem alEa7 {h : Nat} (z : isE h) : alenC (h + 7) = 8 := by unfold alenC; rw [tEa7 z]; rfl
theorem isAEa7 {h : Nat} (z : isE h) : isAC (h + 7) := ⟨nEa7 z, by rw [alEa7 z, tEa7 z]⟩
theorem nT {h : Nat} (z : isT h) : h < 681 := by unfold isT at z; omega
theorem tT {h : Nat} (z : isT h) : TC h = (0, 8, [(0, 0), (0, 0), (2, h + 1), (2, h + 2), (2, h + 3), (2, h + 4), (2, h + 5), (2, h + 6), (2, h + 7)]) := by rcases z with rfl | rfl <;> decide +kernel
theorem nTa1 {h : Nat} (z : isT h) : h + 1 < 681 := by unfold isT at z; omega
theorem tTa1 {h : Nat} (z : isT h) : TC (h + 1) = (1, 30, []) := by rcases z with rfl | rfl <;> decide +kernel
theorem alTa1 {h : Nat} (z : isT h) : alenC (h + 1) = 30 := by unfold alenC; rw [tTa1 z]; rfl
theorem isATa1 {h : Nat} (z : isT h) : isAC (h + 1) := ⟨nTa1 z, by rw [alTa1 z, tTa1 z]⟩
theorem nTa2 {h : Nat} (z : isT h) : h + 2 < 681 := by unfold isT at z; omega
theorem tTa2 {h : Nat} (z : isT h) : TC (h + 2) = (1, 30, []) := by rcases z with rfl | rfl <;> decide +kernel
theorem alTa2 {h : Nat} (z : isT h) : alenC (h + 2) = 30 := by unfold alenC; rw [tTa2 z]; rfl
theorem isATa2 {h : Nat} (z : isT h) : isAC (h + 2) := ⟨nTa2 z, by rw [alTa2 z, tTa2 z]⟩
theorem nTa3 {h : Nat} (z : isT h) : h + 3 < 681 := by unfold isT at z; omega
theorem tTa3 {h : Nat} (z : isT h) : TC (h + 3) = (1, 30, []) := by rcases z with rfl | rfl <;> decide +kernel
theorem alTa3 {h : Nat} (z : isT h) : alenC (h + 3) = 30 := by unfold alenC; rw [tTa3 z]; rfl
theorem isATa3 {h : Nat} (z : isT h) : isAC (h + 3) := ⟨nTa3 z, by rw [alTa3 z, tTa3 z]⟩
theorem nTa4 {h : Nat} (z : isT h) : h + 4 < 681 := by unfold isT at z; omega
theorem tTa4 {h : Nat} (z : isT h) : TC (h + 4) = (1, 30, []) := by rcases z with rfl | rfl <;> decide +kernel
theorem alTa4 {h : Nat} (z : isT h) : alenC (h + 4) = 30 := by unfold alenC; rw [tTa4 z]; rfl
theorem isATa4 {h : Nat} (z : isT h) : isAC (h + 4) := ⟨nTa4 z, by rw [alTa4 z, tTa4 z]⟩
theorem nTa5 {h : Nat} (z : isT h) : h + 5 < 681 := by unfold isT at z; omega
theorem tTa5 {h : Nat} (z : isT h) : TC (h + 5) = (1, 90, []) := by rcases z with rfl | rfl <;> decide +kernel
theorem alTa5 {h : Nat} (z : isT h) : alenC (h + 5) = 90 := by unfold alenC; rw [tTa5 z]; rfl
theorem isATa5 {h : Nat} (z : isT h) : isAC (h + 5) := ⟨nTa5 z, by rw [alTa5 z, tTa5 z]⟩
theorem nTa6 {h : Nat} (z : isT h) : h + 6 < 681 := by unfold isT at z; omega
theorem tTa6 {h : Nat} (z : isT h) : TC (h + 6) = (1, 30, []) := by rcases z with rfl | rfl <;> decide +kernel
theorem alTa6 {h : Nat} (z : isT h) : alenC (h + 6) = 30 := by unfold alenC; rw [tTa6 z]; rfl
theorem isATa6 {h : Nat} (z : isT h) : isAC (h + 6) := ⟨nTa6 z, by rw [alTa6 z, tTa6 z]⟩
theorem nTa7 {h : Nat} (z : isT h) : h + 7 < 681 := by unfold isT at z; omega
theorem tTa7 {h : Nat} (z : isT h) : TC (h + 7) = (1, 30, []) := by rcases z with rfl | rfl <;> decide +kernel
theorem alTa7 {h : Nat} (z : isT h) : alenC (h + 7) = 30 := by unfold alenC; rw [tTa7 z]; rfl
theorem isATa7 {h : Nat} (z : isT h) : isAC (h + 7) := ⟨nTa7 z, by rw [alTa7 z, tTa7 z]⟩
theorem nF {h : Nat} (z : isF h) : h < 681 := by unfold isF at z; omega
theorem tF {h : Nat} (z : isF h) : TC h = (0, 3, [(0, 0), (2, h + 1), (2, h + 2), (2, h + 3), (2, h + 4)]) := by rcases z with rfl | rfl <;> decide +kernel
theorem nFa1 {h : Nat} (z : isF h) : h + 1 < 681 := by unfold isF at z; omega
theorem tFa1 {h : Nat} (z : isF h) : TC (h + 1) = (1, 180, []) := by rcases z with rfl | rfl <;> decide +kernel
theorem alFa1 {h : Nat} (z : isF h) : alenC (h + 1) = 180 := by unfold alenC; rw [tFa1 z]; rfl
theorem isAFa1 {h : Nat} (z : isF h) : isAC (h + 1) := ⟨nFa1 z, by rw [alFa1 z, tFa1 z]⟩
theorem nFa2 {h : Nat} (z : isF h) : h + 2 < 681 := by unfold isF at z; omega
theorem tFa2 {h : Nat} (z : isF h) : TC (h + 2) = (1, 180, []) := by rcases z with rfl | rfl <;> decide +kernel
theorem alFa2 {h : Nat} (z : isF h) : alenC (h + 2) = 180 := by unfold alenC; rw [tFa2 z]; rfl
theorem isAFa2 {h : Nat} (z : isF h) : isAC (h + 2) := ⟨nFa2 z, by rw [alFa2 z, tFa2 z]⟩
theorem nFa3 {h : Nat} (z : isF h) : h + 3 < 681 := by unfold isF at z; omega
theorem tFa3 {h : Nat} (z : isF h) : TC (h + 3) = (1, 180, []) := by rcases z with rfl | rfl <;> decide +kernel
theorem alFa3 {h : Nat} (z : isF h) : alenC (h + 3) = 180 := by unfold alenC; rw [tFa3 z]; rfl
theorem isAFa3 {h : Nat} (z : isF h) : isAC (h + 3) := ⟨nFa3 z, by rw [alFa3 z, tFa3 z]⟩
theorem nFa4 {h : Nat} (z : isF h) : h + 4 < 681 := by unfold isF at z; omega
theorem tFa4 {h : Nat} (z : isF h) : TC (h + 4) = (1, 180, []) := by rcases z with rfl | rfl <;> decide +kernel
theorem alFa4 {h : Nat} (z : isF h) : alenC (h + 4) = 180 := by unfold alenC; rw [tFa4 z]; rfl
theorem isAFa4 {h : Nat} (z : isF h) : isAC (h + 4) := ⟨nFa4 z, by rw [alFa4 z, tFa4 z]⟩
theorem nR {h : Nat} (z : isR h) : h < 681 := by unfold isR at z; omega
theorem tR {h : Nat} (z : isR h) : TC h = (0, 4, [(0, 0), (0, 0), (0, 0), (0, 0), (0, 0), (3, 0), (0, 0), (0, 0), (0, 0), (1, 0), (0, 0), (1, 0), (0, 0), (2, h + 1)]) := by
  obtain ⟨z1, z2, z3⟩ := z
  unfold TC; rw [if_neg (by omega), if_pos ⟨z1, z2⟩, if_pos z3]
theorem nRa1 {h : Nat} (z : isR h) : h + 1 < 681 := by unfold isR at z; omega
theorem tRa1 {h : Nat} (z : isR h) : TC (h + 1) = (1, 8, []) := by
  obtain ⟨z1, z2, z3⟩ := z
  unfold TC; rw [if_neg (by omega), if_pos (by omega), if_neg (by omega)]
theorem alRa1 {h : Nat} (z : isR h) : alenC (h + 1) = 8 := by unfold alenC; rw [tRa1 z]; rfl
theorem isARa1 {h : Nat} (z : isR h) : isAC (h + 1) := ⟨nRa1 z, by rw [alRa1 z, tRa1 z]⟩
theorem kI_m9 : i32 (-9) := by decide
theorem kI_m8 : i32 (-8) := by decide
theorem kI_m7 : i32 (-7) := by decide
theorem kI_m3 : i32 (-3) := by decide
theorem kI_m2 : i32 (-2) := by decide
theorem kI_m1 : i32 (-1) := by decide
theorem kI_0 : i32 (0) := by decide
theorem kI_1 : i32 (1) := by decide
theorem kI_2 : i32 (2) := by decide
theorem kI_3 : i32 (3) := by decide
theorem kI_4 : i32 (4) := by decide
theorem kI_6 : i32 (6) := by decide
theorem kI_7 : i32 (7) := by decide
theorem kI_8 : i32 (8) := by decide
theorem kI_9 : i32 (9) := by decide
theorem kI_10 : i32 (10) := by decide
theorem kI_12 : i32 (12) := by decide
theorem kI_13 : i32 (13) := by decide
theorem kI_15 : i32 (15) := by decide
theorem kI_24 : i32 (24) := by decide
theorem kI_30 : i32 (30) := by decide
theorem kI_40 : i32 (40) := by decide
theorem kI_60 : i32 (60) := by decide
theorem kI_90 : i32 (90) := by decide
theorem kI_97 : i32 (97) := by decide
theorem kI_100 : i32 (100) := by decide
theorem kI_103 : i32 (103) := by decide
theorem kI_120 : i32 (120) := by decide
theorem kI_169 : i32 (169) := by decide
theorem kI_180 : i32 (180) := by decide
theorem kI_181 : i32 (181) := by decide
theorem kI_200 : i32 (200) := by decide
theorem kI_240 : i32 (240) := by decide
theorem kI_999 : i32 (999) := by decide
theorem kI_1000 : i32 (1000) := by decide
theorem kI_1690 : i32 (1690) := by decide
theorem kI_100000 : i32 (100000) := by decide
theorem kI_10000000 : i32 (10000000) := by decide
theorem kI_500000000 : i32 (500000000) := by decide
theorem kI_1073741824 : i32 (1073741824) := by decide
