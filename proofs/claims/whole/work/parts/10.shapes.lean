abbrev oX0 (a : Nat → Nat) (v : Ob) : Nat × va_E := (a 0, .inr (0, [.int (v 0 0), .int (v 0 1), .int (v 0 2), .ref (a 4), .ref (a 5), .ref (a 6), .ref (a 7), .ref (a 8)]))
abbrev oX2 (a : Nat → Nat) (v : Ob) : Nat × va_E := (a 0, .inr (2, [.int (v 0 0), .int (v 0 1), .int (v 0 2), .int (v 0 3), .int (v 0 4), .ref (a 6), .ref (a 7), .ref (a 8)]))
abbrev oX4 (a : Nat → Nat) (v : Ob) : Nat × va_E := (a 0, .inr (4, [.int (v 0 0), .int (v 0 1), .int (v 0 2), .int (v 0 3), .ref (a 5), .ref (a 6), .ref (a 7), .ref (a 8), .ref (a 9), .ref (a 10), .ref (a 11), .ref (a 12), .ref (a 13)]))
abbrev oX1 (a : Nat → Nat) (tA : Nat) (aD : Nat → Nat) (v : Ob) : Nat × va_E := (a 0, .inr (1, [.ref tA, .ref (aD 0), .int (v 0 2), .int (v 0 3), .int (v 0 4), .int (v 0 5), .int (v 0 6), .int (v 0 7)]))
abbrev oX3 (a aW aS : Nat → Nat) (v : Ob) : Nat × va_E := (a 0, .inr (3, [.ref (aW 0), .ref (aS 0), .ref (a 3), .ref (a 4), .ref (a 5), .int (v 0 5), .int (v 0 6), .int (v 0 7), .int (v 0 8), .int (v 0 9), .int (v 0 10), .int (v 0 11), .int (v 0 12), .int (v 0 13)]))
abbrev oX5 (a aW aD aR aS aI aJ aY aC : Nat → Nat) (v : Ob) (t : Int64) : Nat × va_E := (a 0, .inr (5, [.ref (a 1), .int (v 0 1), .ref (aW 0), .ref (aD 0), .ref (aR 0), .ref (aS 0), .ref (aI 0), .ref (aJ 0), .ref (aY 0), .ref (aC 0), .long t]))
abbrev oX6 (a : Nat → Nat) (v : Ob) (t : Int64) : Nat × va_E := (a 0, .inr (6, [.ref (a 1), .ref (a 2), .ref (a 3), .ref (a 4), .ref (a 5), .ref (a 6), .int (v 0 6), .ref (a 8), .int (v 0 8), .ref (a 10), .int (v 0 10), .long t, .int (v 0 12), .int (v 0 13), .int (v 0 14), .int (v 0 15), .int (v 0 16), .ref (a 18), .int (v 0 18), .int (v 0 19), .ref (a 21), .int (v 0 21), .ref (a 23), .ref (a 24), .int (v 0 24), .ref (a 26), .ref (a 27), .ref (a 28), .int (v 0 28)]))
theorem k_bipush_n10 : (Int8.ofInt (-10)).toInt32 = (-10 : Int32) := by decide
theorem k_bipush_n9 : (Int8.ofInt (-9)).toInt32 = (-9 : Int32) := by decide
theorem k_bipush_n5 : (Int8.ofInt (-5)).toInt32 = (-5 : Int32) := by decide
theorem k_bipush_n3 : (Int8.ofInt (-3)).toInt32 = (-3 : Int32) := by decide
theorem k_bipush_n2 : (Int8.ofInt (-2)).toInt32 = (-2 : Int32) := by decide
theorem k_bipush_6 : (Int8.ofInt (6)).toInt32 = (6 : Int32) := by decide
theorem k_bipush_7 : (Int8.ofInt (7)).toInt32 = (7 : Int32) := by decide
theorem k_bipush_8 : (Int8.ofInt (8)).toInt32 = (8 : Int32) := by decide
theorem k_bipush_9 : (Int8.ofInt (9)).toInt32 = (9 : Int32) := by decide
theorem k_bipush_10 : (Int8.ofInt (10)).toInt32 = (10 : Int32) := by decide
theorem k_bipush_11 : (Int8.ofInt (11)).toInt32 = (11 : Int32) := by decide
theorem k_bipush_12 : (Int8.ofInt (12)).toInt32 = (12 : Int32) := by decide
theorem k_bipush_16 : (Int8.ofInt (16)).toInt32 = (16 : Int32) := by decide
theorem k_bipush_18 : (Int8.ofInt (18)).toInt32 = (18 : Int32) := by decide
theorem k_bipush_23 : (Int8.ofInt (23)).toInt32 = (23 : Int32) := by decide
theorem k_bipush_24 : (Int8.ofInt (24)).toInt32 = (24 : Int32) := by decide
theorem k_bipush_25 : (Int8.ofInt (25)).toInt32 = (25 : Int32) := by decide
theorem k_bipush_31 : (Int8.ofInt (31)).toInt32 = (31 : Int32) := by decide
theorem k_bipush_32 : (Int8.ofInt (32)).toInt32 = (32 : Int32) := by decide
theorem k_bipush_33 : (Int8.ofInt (33)).toInt32 = (33 : Int32) := by decide
theorem k_bipush_34 : (Int8.ofInt (34)).toInt32 = (34 : Int32) := by decide
theorem k_bipush_40 : (Int8.ofInt (40)).toInt32 = (40 : Int32) := by decide
theorem k_bipush_43 : (Int8.ofInt (43)).toInt32 = (43 : Int32) := by decide
theorem k_bipush_48 : (Int8.ofInt (48)).toInt32 = (48 : Int32) := by decide
theorem k_bipush_52 : (Int8.ofInt (52)).toInt32 = (52 : Int32) := by decide
theorem k_bipush_57 : (Int8.ofInt (57)).toInt32 = (57 : Int32) := by decide
theorem k_bipush_58 : (Int8.ofInt (58)).toInt32 = (58 : Int32) := by decide
theorem k_bipush_59 : (Int8.ofInt (59)).toInt32 = (59 : Int32) := by decide
theorem k_bipush_60 : (Int8.ofInt (60)).toInt32 = (60 : Int32) := by decide
theorem k_bipush_63 : (Int8.ofInt (63)).toInt32 = (63 : Int32) := by decide
theorem k_bipush_64 : (Int8.ofInt (64)).toInt32 = (64 : Int32) := by decide
theorem k_bipush_70 : (Int8.ofInt (70)).toInt32 = (70 : Int32) := by decide
theorem k_bipush_97 : (Int8.ofInt (97)).toInt32 = (97 : Int32) := by decide
theorem k_bipush_99 : (Int8.ofInt (99)).toInt32 = (99 : Int32) := by decide
theorem k_bipush_122 : (Int8.ofInt (122)).toInt32 = (122 : Int32) := by decide
theorem k_bipush_125 : (Int8.ofInt (125)).toInt32 = (125 : Int32) := by decide
theorem k_iconst_n1 : Int32.ofInt (-1) = (-1 : Int32) := by decide
theorem k_iconst_0 : Int32.ofInt (0) = (0 : Int32) := by decide
theorem k_iconst_1 : Int32.ofInt (1) = (1 : Int32) := by decide
theorem k_iconst_2 : Int32.ofInt (2) = (2 : Int32) := by decide
theorem k_iconst_3 : Int32.ofInt (3) = (3 : Int32) := by decide
theorem k_iconst_4 : Int32.ofInt (4) = (4 : Int32) := by decide
theorem k_iconst_5 : Int32.ofInt (5) = (5 : Int32) := by decide
theorem k_sipush_200 : (Int16.ofInt (200)).toInt32 = (200 : Int32) := by decide
theorem k_sipush_240 : (Int16.ofInt (240)).toInt32 = (240 : Int32) := by decide
theorem k_sipush_255 : (Int16.ofInt (255)).toInt32 = (255 : Int32) := by decide
theorem k_sipush_1000 : (Int16.ofInt (1000)).toInt32 = (1000 : Int32) := by decide
theorem k_sipush_9999 : (Int16.ofInt (9999)).toInt32 = (9999 : Int32) := by decide
