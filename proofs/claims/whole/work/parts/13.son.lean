abbrev rm_X2_startAnew : Room := { frames := 0, cells := 0, slots := 0, locals := 0 }
theorem fi_X2_startAnew_X2 : ∀ w ∈ wsX20, w ∈ wsX2_startAnew := fun _ h => List.mem_cons_of_mem _ (List.mem_append_right _ h)
theorem hdV_X2_startAnew : yX2_startAnew.cls = RX2 ∧ yX2_startAnew.cls ≠ "java/lang/invoke/MethodHandle" ∧ yX2_startAnew.cls ≠ "java/lang/invoke/VarHandle" ∧ (parseMethodDescriptor yX2_startAnew.desc).map (fun d => d.parameters.length) = some 0 := by decide +kernel
set_option maxRecDepth 100000 in
set_option maxHeartbeats 4000000 in
theorem c_X2_startAnew (l : Launch) (G : va_G) (cI cZ : ClassId) (aS : Nat → Nat) (vS : Ob)  (res : Ob) (h : m_X2_startAnew vS  = some res) : Ct l yX2_startAnew wsX2_startAnew rm_X2_startAnew G cI cZ [.ref (aS 0)] [oX2 aS vS, ai cI (aS 6) 12 (vS 6), ai cI (aS 7) 12 (vS 7), ai cI (aS 8) 12 (vS 8)] none [oX2 aS res, ai cI (aS 6) 12 (res 6), ai cI (aS 7) 12 (res 7), ai cI (aS 8) 12 (res 8)] := by
  refine Ct.of_v (maxL := 1) (by decide) rfl (Nat.le_of_ble_eq_true rfl) ?_
  intro p e s m below meth c args hx hb hml hown hts A hA hEN hP hD hS Q hRet ls hl
  have hown : s.vm.findClass RX2 = some m.cls := hown
  have hl : lv_has ls 1 [(0, .ref (aS 0))] := hl
  unfold m_X2_startAnew at h
  refine lv_aload_n hx hb dX2_startAnew_0 rfl (lv_at hl 0 rfl) ?_
  refine lv_iconst (v := (0 : Int32)) hx hb dX2_startAnew_1 k_iconst_0 ?_
  refine va_put (D := G) (ci := 2) (v := .int (0 : Int32)) (ty := .int) (C := RX2) (T := TX2) (N := 8) hx hb hts fi_X2_startAnew_X2 tyX2 tyX2_ok nmX2 hown hEN.1 hP hD hS 0 rfl rfl 0 (by decide) (hts (.fieldLink RX2 21 "HourWell$Son" "place" "I") (List.mem_of_getElem? (i := 1) rfl)) (fun _ h9 => h9) rfl (by decide +kernel) rfl rfl (Nat.le_of_ble_eq_true rfl) dX2_startAnew_2 (fun H locs hP hD hS => ?_)
  have hP : va_P G vwCl [oX2 aS (st vS 0 0 (0 : Int32)), ai cI (aS 6) 12 (vS 6), ai cI (aS 7) 12 (vS 7), ai cI (aS 8) 12 (vS 8)] H := hP
  have hD : va_D A [oX2 aS (st vS 0 0 (0 : Int32)), ai cI (aS 6) 12 (vS 6), ai cI (aS 7) 12 (vS 7), ai cI (aS 8) 12 (vS 8)] := hD
  refine lv_aload_n hx hb dX2_startAnew_5 rfl (lv_at hl 0 rfl) ?_
  refine lv_iconst (v := (0 : Int32)) hx hb dX2_startAnew_6 k_iconst_0 ?_
  refine va_put (D := G) (ci := 2) (v := .int (0 : Int32)) (ty := .int) (C := RX2) (T := TX2) (N := 8) hx hb hts fi_X2_startAnew_X2 tyX2 tyX2_ok nmX2 hown hEN.1 hP hD hS 0 rfl rfl 1 (by decide) (hts (.fieldLink RX2 25 "HourWell$Son" "hour" "I") (List.mem_of_getElem? (i := 2) rfl)) (fun _ h9 => h9) rfl (by decide +kernel) rfl rfl (Nat.le_of_ble_eq_true rfl) dX2_startAnew_7 (fun H locs hP hD hS => ?_)
  have hP : va_P G vwCl [oX2 aS (st (st vS 0 0 (0 : Int32)) 0 1 (0 : Int32)), ai cI (aS 6) 12 (vS 6), ai cI (aS 7) 12 (vS 7), ai cI (aS 8) 12 (vS 8)] H := hP
  have hD : va_D A [oX2 aS (st (st vS 0 0 (0 : Int32)) 0 1 (0 : Int32)), ai cI (aS 6) 12 (vS 6), ai cI (aS 7) 12 (vS 7), ai cI (aS 8) 12 (vS 8)] := hD
  refine lv_aload_n hx hb dX2_startAnew_10 rfl (lv_at hl 0 rfl) ?_
  refine lv_iconst (v := (0 : Int32)) hx hb dX2_startAnew_11 k_iconst_0 ?_
  refine va_put (D := G) (ci := 2) (v := .int (0 : Int32)) (ty := .int) (C := RX2) (T := TX2) (N := 8) hx hb hts fi_X2_startAnew_X2 tyX2 tyX2_ok nmX2 hown hEN.1 hP hD hS 0 rfl rfl 2 (by decide) (hts (.fieldLink RX2 28 "HourWell$Son" "things" "I") (List.mem_of_getElem? (i := 3) rfl)) (fun _ h9 => h9) rfl (by decide +kernel) rfl rfl (Nat.le_of_ble_eq_true rfl) dX2_startAnew_12 (fun H locs hP hD hS => ?_)
  have hP : va_P G vwCl [oX2 aS (st (st (st vS 0 0 (0 : Int32)) 0 1 (0 : Int32)) 0 2 (0 : Int32)), ai cI (aS 6) 12 (vS 6), ai cI (aS 7) 12 (vS 7), ai cI (aS 8) 12 (vS 8)] H := hP
  have hD : va_D A [oX2 aS (st (st (st vS 0 0 (0 : Int32)) 0 1 (0 : Int32)) 0 2 (0 : Int32)), ai cI (aS 6) 12 (vS 6), ai cI (aS 7) 12 (vS 7), ai cI (aS 8) 12 (vS 8)] := hD
  refine lv_aload_n hx hb dX2_startAnew_15 rfl (lv_at hl 0 rfl) ?_
  refine lv_iconst (v := (0 : Int32)) hx hb dX2_startAnew_16 k_iconst_0 ?_
  refine va_put (D := G) (ci := 2) (v := .int (0 : Int32)) (ty := .int) (C := RX2) (T := TX2) (N := 8) hx hb hts fi_X2_startAnew_X2 tyX2 tyX2_ok nmX2 hown hEN.1 hP hD hS 0 rfl rfl 3 (by decide) (hts (.fieldLink RX2 31 "HourWell$Son" "known" "I") (List.mem_of_getElem? (i := 4) rfl)) (fun _ h9 => h9) rfl (by decide +kernel) rfl rfl (Nat.le_of_ble_eq_true rfl) dX2_startAnew_17 (fun H locs hP hD hS => ?_)
  have hP : va_P G vwCl [oX2 aS (st (st (st (st vS 0 0 (0 : Int32)) 0 1 (0 : Int32)) 0 2 (0 : Int32)) 0 3 (0 : Int32)), ai cI (aS 6) 12 (vS 6), ai cI (aS 7) 12 (vS 7), ai cI (aS 8) 12 (vS 8)] H := hP
  have hD : va_D A [oX2 aS (st (st (st (st vS 0 0 (0 : Int32)) 0 1 (0 : Int32)) 0 2 (0 : Int32)) 0 3 (0 : Int32)), ai cI (aS 6) 12 (vS 6), ai cI (aS 7) 12 (vS 7), ai cI (aS 8) 12 (vS 8)] := hD
  have hres := Option.some.inj h
  subst hres
  exact hRet 20 _ _ _ hP hD hS dX2_startAnew_20
abbrev rm_X2_becomeLike : Room := { frames := 1, cells := 0, slots := 0, locals := 26 }
theorem fi_X2_becomeLike_X2 : ∀ w ∈ wsX20, w ∈ wsX2_becomeLike := fun _ h => List.mem_cons_of_mem _ (List.mem_append_right _ h)
theorem hdV_X2_becomeLike : yX2_becomeLike.cls = RX2 ∧ yX2_becomeLike.cls ≠ "java/lang/invoke/MethodHandle" ∧ yX2_becomeLike.cls ≠ "java/lang/invoke/VarHandle" ∧ (parseMethodDescriptor yX2_becomeLike.desc).map (fun d => d.parameters.length) = some 1 := by decide +kernel
set_option maxRecDepth 100000 in
set_option maxHeartbeats 4000000 in
theorem c_X2_becomeLike (l : Launch) (G : va_G) (cI cZ : ClassId) (aS : Nat → Nat) (aO : Nat → Nat) (vS : Ob) (vO : Ob)  (res : Ob) (h : m_X2_becomeLike vS vO  = some res) : Ct l yX2_becomeLike wsX2_becomeLike rm_X2_becomeLike G cI cZ [.ref (aS 0), .ref (aO 0)] [oX2 aS vS, ai cI (aS 6) 12 (vS 6), ai cI (aS 7) 12 (vS 7), ai cI (aS 8) 12 (vS 8), oX2 aO vO, ai cI (aO 6) 12 (vO 6), ai cI (aO 7) 12 (vO 7), ai cI (aO 8) 12 (vO 8)] none [oX2 aS res, ai cI (aS 6) 12 (res 6), ai cI (aS 7) 12 (res 7), ai cI (aS 8) 12 (res 8), oX2 aO vO, ai cI (aO 6) 12 (vO 6), ai cI (aO 7) 12 (vO 7), ai cI (aO 8) 12 (vO 8)] := by
  refine Ct.of_v (maxL := 2) (by decide) rfl (Nat.le_of_ble_eq_true rfl) ?_
  intro p e s m below meth c args hx hb hml hown hts A hA hEN hP hD hS Q hRet ls hl
  have hown : s.vm.findClass RX2 = some m.cls := hown
  have hl : lv_has ls 2 [(0, .ref (aS 0)), (1, .ref (aO 0))] := hl
  unfold m_X2_becomeLike at h
  refine lv_aload_n hx hb dX2_becomeLike_0 rfl (lv_at hl 0 rfl) ?_
  refine lv_aload_n hx hb dX2_becomeLike_1 rfl (lv_at hl 1 rfl) ?_
  refine va_get (D := G) (ci := 2) (v := .int (vO 0 0)) (C := RX2) (T := TX2) (N := 8) hx hb hts fi_X2_becomeLike_X2 hown hEN.1 hP 4 rfl rfl 0 (by decide) (hts (.fieldLink RX2 21 "HourWell$Son" "place" "I") (List.mem_of_getElem? (i := 1) rfl)) (fun _ h9 => h9) rfl dX2_becomeLike_2 ?_
  refine va_put (D := G) (ci := 2) (v := .int (vO 0 0)) (ty := .int) (C := RX2) (T := TX2) (N := 8) hx hb hts fi_X2_becomeLike_X2 tyX2 tyX2_ok nmX2 hown hEN.1 hP hD hS 0 rfl rfl 0 (by decide) (hts (.fieldLink RX2 21 "HourWell$Son" "place" "I") (List.mem_of_getElem? (i := 1) rfl)) (fun _ h9 => h9) rfl (by decide +kernel) rfl rfl (Nat.le_of_ble_eq_true rfl) dX2_becomeLike_5 (fun H locs hP hD hS => ?_)
  have hP : va_P G vwCl [oX2 aS (st vS 0 0 (vO 0 0)), ai cI (aS 6) 12 (vS 6), ai cI (aS 7) 12 (vS 7), ai cI (aS 8) 12 (vS 8), oX2 aO vO, ai cI (aO 6) 12 (vO 6), ai cI (aO 7) 12 (vO 7), ai cI (aO 8) 12 (vO 8)] H := hP
  have hD : va_D A [oX2 aS (st vS 0 0 (vO 0 0)), ai cI (aS 6) 12 (vS 6), ai cI (aS 7) 12 (vS 7), ai cI (aS 8) 12 (vS 8), oX2 aO vO, ai cI (aO 6) 12 (vO 6), ai cI (aO 7) 12 (vO 7), ai cI (aO 8) 12 (vO 8)] := hD
  refine lv_aload_n hx hb dX2_becomeLike_8 rfl (lv_at hl 0 rfl) ?_
  refine lv_aload_n hx hb dX2_becomeLike_9 rfl (lv_at hl 1 rfl) ?_
  refine va_get (D := G) (ci := 2) (v := .int (vO 0 1)) (C := RX2) (T := TX2) (N := 8) hx hb hts fi_X2_becomeLike_X2 hown hEN.1 hP 4 rfl rfl 1 (by decide) (hts (.fieldLink RX2 25 "HourWell$Son" "hour" "I") (List.mem_of_getElem? (i := 2) rfl)) (fun _ h9 => h9) rfl dX2_becomeLike_10 ?_
  refine va_put (D := G) (ci := 2) (v := .int (vO 0 1)) (ty := .int) (C := RX2) (T := TX2) (N := 8) hx hb hts fi_X2_becomeLike_X2 tyX2 tyX2_ok nmX2 hown hEN.1 hP hD hS 0 rfl rfl 1 (by decide) (hts (.fieldLink RX2 25 "HourWell$Son" "hour" "I") (List.mem_of_getElem? (i := 2) rfl)) (fun _ h9 => h9) rfl (by decide +kernel) rfl rfl (Nat.le_of_ble_eq_true rfl) dX2_becomeLike_13 (fun H locs hP hD hS => ?_)
  have hP : va_P G vwCl [oX2 aS (st (st vS 0 0 (vO 0 0)) 0 1 (vO 0 1)), ai cI (aS 6) 12 (vS 6), ai cI (aS 7) 12 (vS 7), ai cI (aS 8) 12 (vS 8), oX2 aO vO, ai cI (aO 6) 12 (vO 6), ai cI (aO 7) 12 (vO 7), ai cI (aO 8) 12 (vO 8)] H := hP
  have hD : va_D A [oX2 aS (st (st vS 0 0 (vO 0 0)) 0 1 (vO 0 1)), ai cI (aS 6) 12 (vS 6), ai cI (aS 7) 12 (vS 7), ai cI (aS 8) 12 (vS 8), oX2 aO vO, ai cI (aO 6) 12 (vO 6), ai cI (aO 7) 12 (vO 7), ai cI (aO 8) 12 (vO 8)] := hD
  refine lv_aload_n hx hb dX2_becomeLike_16 rfl (lv_at hl 0 rfl) ?_
  refine lv_aload_n hx hb dX2_becomeLike_17 rfl (lv_at hl 1 rfl) ?_
  refine va_get (D := G) (ci := 2) (v := .int (vO 0 2)) (C := RX2) (T := TX2) (N := 8) hx hb hts fi_X2_becomeLike_X2 hown hEN.1 hP 4 rfl rfl 2 (by decide) (hts (.fieldLink RX2 28 "HourWell$Son" "things" "I") (List.mem_of_getElem? (i := 3) rfl)) (fun _ h9 => h9) rfl dX2_becomeLike_18 ?_
  refine va_put (D := G) (ci := 2) (v := .int (vO 0 2)) (ty := .int) (C := RX2) (T := TX2) (N := 8) hx hb hts fi_X2_becomeLike_X2 tyX2 tyX2_ok nmX2 hown hEN.1 hP hD hS 0 rfl rfl 2 (by decide) (hts (.fieldLink RX2 28 "HourWell$Son" "things" "I") (List.mem_of_getElem? (i := 3) rfl)) (fun _ h9 => h9) rfl (by decide +kernel) rfl rfl (Nat.le_of_ble_eq_true rfl) dX2_becomeLike_21 (fun H locs hP hD hS => ?_)
  have hP : va_P G vwCl [oX2 aS (st (st (st vS 0 0 (vO 0 0)) 0 1 (vO 0 1)) 0 2 (vO 0 2)), ai cI (aS 6) 12 (vS 6), ai cI (aS 7) 12 (vS 7), ai cI (aS 8) 12 (vS 8), oX2 aO vO, ai cI (aO 6) 12 (vO 6), ai cI (aO 7) 12 (vO 7), ai cI (aO 8) 12 (vO 8)] H := hP
  have hD : va_D A [oX2 aS (st (st (st vS 0 0 (vO 0 0)) 0 1 (vO 0 1)) 0 2 (vO 0 2)), ai cI (aS 6) 12 (vS 6), ai cI (aS 7) 12 (vS 7), ai cI (aS 8) 12 (vS 8), oX2 aO vO, ai cI (aO 6) 12 (vO 6), ai cI (aO 7) 12 (vO 7), ai cI (aO 8) 12 (vO 8)] := hD
  refine lv_aload_n hx hb dX2_becomeLike_24 rfl (lv_at hl 0 rfl) ?_
  refine lv_aload_n hx hb dX2_becomeLike_25 rfl (lv_at hl 1 rfl) ?_
  refine va_get (D := G) (ci := 2) (v := .int (vO 0 3)) (C := RX2) (T := TX2) (N := 8) hx hb hts fi_X2_becomeLike_X2 hown hEN.1 hP 4 rfl rfl 3 (by decide) (hts (.fieldLink RX2 31 "HourWell$Son" "known" "I") (List.mem_of_getElem? (i := 4) rfl)) (fun _ h9 => h9) rfl dX2_becomeLike_26 ?_
  refine va_put (D := G) (ci := 2) (v := .int (vO 0 3)) (ty := .int) (C := RX2) (T := TX2) (N := 8) hx hb hts fi_X2_becomeLike_X2 tyX2 tyX2_ok nmX2 hown hEN.1 hP hD hS 0 rfl rfl 3 (by decide) (hts (.fieldLink RX2 31 "HourWell$Son" "known" "I") (List.mem_of_getElem? (i := 4) rfl)) (fun _ h9 => h9) rfl (by decide +kernel) rfl rfl (Nat.le_of_ble_eq_true rfl) dX2_becomeLike_29 (fun H locs hP hD hS => ?_)
  have hP : va_P G vwCl [oX2 aS (st (st (st (st vS 0 0 (vO 0 0)) 0 1 (vO 0 1)) 0 2 (vO 0 2)) 0 3 (vO 0 3)), ai cI (aS 6) 12 (vS 6), ai cI (aS 7) 12 (vS 7), ai cI (aS 8) 12 (vS 8), oX2 aO vO, ai cI (aO 6) 12 (vO 6), ai cI (aO 7) 12 (vO 7), ai cI (aO 8) 12 (vO 8)] H := hP
  have hD : va_D A [oX2 aS (st (st (st (st vS 0 0 (vO 0 0)) 0 1 (vO 0 1)) 0 2 (vO 0 2)) 0 3 (vO 0 3)), ai cI (aS 6) 12 (vS 6), ai cI (aS 7) 12 (vS 7), ai cI (aS 8) 12 (vS 8), oX2 aO vO, ai cI (aO 6) 12 (vO 6), ai cI (aO 7) 12 (vO 7), ai cI (aO 8) 12 (vO 8)] := hD
  refine lv_aload_n hx hb dX2_becomeLike_32 rfl (lv_at hl 1 rfl) ?_
  refine va_get (D := G) (ci := 2) (v := .ref (aO 6)) (C := RX2) (T := TX2) (N := 8) hx hb hts fi_X2_becomeLike_X2 hown hEN.1 hP 4 rfl rfl 5 (by decide) (hts (.fieldLink RX2 9 "HourWell$Son" "pastPlaces" "[I") (List.mem_of_getElem? (i := 5) rfl)) (fun _ h9 => h9) rfl dX2_becomeLike_33 ?_
  refine lv_iconst (v := (0 : Int32)) hx hb dX2_becomeLike_36 k_iconst_0 ?_
  refine lv_aload_n hx hb dX2_becomeLike_37 rfl (lv_at hl 0 rfl) ?_
  refine va_get (D := G) (ci := 2) (v := .ref (aS 6)) (C := RX2) (T := TX2) (N := 8) hx hb hts fi_X2_becomeLike_X2 hown hEN.1 hP 0 rfl rfl 5 (by decide) (hts (.fieldLink RX2 9 "HourWell$Son" "pastPlaces" "[I") (List.mem_of_getElem? (i := 5) rfl)) (fun _ h9 => h9) rfl dX2_becomeLike_38 ?_
  refine lv_iconst (v := (0 : Int32)) hx hb dX2_becomeLike_41 k_iconst_0 ?_
  refine lv_bipush (v := (12 : Int32)) hx hb dX2_becomeLike_42 k_bipush_12 ?_
  refine va_copyi (f := (vO 6)) (g := (vS 6)) (ty := .int) hx hb (hml.trans hl.1.symm) hown (hts (.methodLink RX2 34 arraycopyName) (List.mem_of_getElem? (i := 6) rfl)) (hts (.native arraycopyName) (List.mem_of_getElem? (i := 7) rfl)) (hts (.static arraycopyName) (List.mem_of_getElem? (i := 8) rfl)) (hts (.initialized "java/lang/System") (List.mem_of_getElem? (i := 9) rfl)) hEN.1 hP hD hS 5 1 0 0 rfl rfl rfl rfl rfl (by decide) (by decide) (by decide) (by decide) (by decide) (fun _ _ => rfl) (Nat.le_of_ble_eq_true rfl) (Nat.le_of_ble_eq_true rfl) dX2_becomeLike_44 (fun H locs hP hD hS => ?_)
  have hP : va_P G vwCl [oX2 aS (st (st (st (st vS 0 0 (vO 0 0)) 0 1 (vO 0 1)) 0 2 (vO 0 2)) 0 3 (vO 0 3)), ai cI (aS 6) 12 (va_cpy (vO 6) (vS 6) (Int32.toNatClampNeg (0 : Int32)) (Int32.toNatClampNeg (0 : Int32)) (Int32.toNatClampNeg (12 : Int32))), ai cI (aS 7) 12 (vS 7), ai cI (aS 8) 12 (vS 8), oX2 aO vO, ai cI (aO 6) 12 (vO 6), ai cI (aO 7) 12 (vO 7), ai cI (aO 8) 12 (vO 8)] H := hP
  have hD : va_D A [oX2 aS (st (st (st (st vS 0 0 (vO 0 0)) 0 1 (vO 0 1)) 0 2 (vO 0 2)) 0 3 (vO 0 3)), ai cI (aS 6) 12 (va_cpy (vO 6) (vS 6) (Int32.toNatClampNeg (0 : Int32)) (Int32.toNatClampNeg (0 : Int32)) (Int32.toNatClampNeg (12 : Int32))), ai cI (aS 7) 12 (vS 7), ai cI (aS 8) 12 (vS 8), oX2 aO vO, ai cI (aO 6) 12 (vO 6), ai cI (aO 7) 12 (vO 7), ai cI (aO 8) 12 (vO 8)] := hD
  refine lv_aload_n hx hb dX2_becomeLike_47 rfl (lv_at hl 1 rfl) ?_
  refine va_get (D := G) (ci := 2) (v := .ref (aO 7)) (C := RX2) (T := TX2) (N := 8) hx hb hts fi_X2_becomeLike_X2 hown hEN.1 hP 4 rfl rfl 6 (by decide) (hts (.fieldLink RX2 15 "HourWell$Son" "pastHours" "[I") (List.mem_of_getElem? (i := 10) rfl)) (fun _ h9 => h9) rfl dX2_becomeLike_48 ?_
  refine lv_iconst (v := (0 : Int32)) hx hb dX2_becomeLike_51 k_iconst_0 ?_
  refine lv_aload_n hx hb dX2_becomeLike_52 rfl (lv_at hl 0 rfl) ?_
  refine va_get (D := G) (ci := 2) (v := .ref (aS 7)) (C := RX2) (T := TX2) (N := 8) hx hb hts fi_X2_becomeLike_X2 hown hEN.1 hP 0 rfl rfl 6 (by decide) (hts (.fieldLink RX2 15 "HourWell$Son" "pastHours" "[I") (List.mem_of_getElem? (i := 10) rfl)) (fun _ h9 => h9) rfl dX2_becomeLike_53 ?_
  refine lv_iconst (v := (0 : Int32)) hx hb dX2_becomeLike_56 k_iconst_0 ?_
  refine lv_bipush (v := (12 : Int32)) hx hb dX2_becomeLike_57 k_bipush_12 ?_
  refine va_copyi (f := (vO 7)) (g := (vS 7)) (ty := .int) hx hb (hml.trans hl.1.symm) hown (hts (.methodLink RX2 34 arraycopyName) (List.mem_of_getElem? (i := 6) rfl)) (hts (.native arraycopyName) (List.mem_of_getElem? (i := 7) rfl)) (hts (.static arraycopyName) (List.mem_of_getElem? (i := 8) rfl)) (hts (.initialized "java/lang/System") (List.mem_of_getElem? (i := 9) rfl)) hEN.1 hP hD hS 6 2 0 0 rfl rfl rfl rfl rfl (by decide) (by decide) (by decide) (by decide) (by decide) (fun _ _ => rfl) (Nat.le_of_ble_eq_true rfl) (Nat.le_of_ble_eq_true rfl) dX2_becomeLike_59 (fun H locs hP hD hS => ?_)
  have hP : va_P G vwCl [oX2 aS (st (st (st (st vS 0 0 (vO 0 0)) 0 1 (vO 0 1)) 0 2 (vO 0 2)) 0 3 (vO 0 3)), ai cI (aS 6) 12 (va_cpy (vO 6) (vS 6) (Int32.toNatClampNeg (0 : Int32)) (Int32.toNatClampNeg (0 : Int32)) (Int32.toNatClampNeg (12 : Int32))), ai cI (aS 7) 12 (va_cpy (vO 7) (vS 7) (Int32.toNatClampNeg (0 : Int32)) (Int32.toNatClampNeg (0 : Int32)) (Int32.toNatClampNeg (12 : Int32))), ai cI (aS 8) 12 (vS 8), oX2 aO vO, ai cI (aO 6) 12 (vO 6), ai cI (aO 7) 12 (vO 7), ai cI (aO 8) 12 (vO 8)] H := hP
  have hD : va_D A [oX2 aS (st (st (st (st vS 0 0 (vO 0 0)) 0 1 (vO 0 1)) 0 2 (vO 0 2)) 0 3 (vO 0 3)), ai cI (aS 6) 12 (va_cpy (vO 6) (vS 6) (Int32.toNatClampNeg (0 : Int32)) (Int32.toNatClampNeg (0 : Int32)) (Int32.toNatClampNeg (12 : Int32))), ai cI (aS 7) 12 (va_cpy (vO 7) (vS 7) (Int32.toNatClampNeg (0 : Int32)) (Int32.toNatClampNeg (0 : Int32)) (Int32.toNatClampNeg (12 : Int32))), ai cI (aS 8) 12 (vS 8), oX2 aO vO, ai cI (aO 6) 12 (vO 6), ai cI (aO 7) 12 (vO 7), ai cI (aO 8) 12 (vO 8)] := hD
  refine lv_aload_n hx hb dX2_becomeLike_62 rfl (lv_at hl 1 rfl) ?_
  refine va_get (D := G) (ci := 2) (v := .ref (aO 8)) (C := RX2) (T := TX2) (N := 8) hx hb hts fi_X2_becomeLike_X2 hown hEN.1 hP 4 rfl rfl 7 (by decide) (hts (.fieldLink RX2 18 "HourWell$Son" "pastThings" "[I") (List.mem_of_getElem? (i := 11) rfl)) (fun _ h9 => h9) rfl dX2_becomeLike_63 ?_
  refine lv_iconst (v := (0 : Int32)) hx hb dX2_becomeLike_66 k_iconst_0 ?_
  refine lv_aload_n hx hb dX2_becomeLike_67 rfl (lv_at hl 0 rfl) ?_
  refine va_get (D := G) (ci := 2) (v := .ref (aS 8)) (C := RX2) (T := TX2) (N := 8) hx hb hts fi_X2_becomeLike_X2 hown hEN.1 hP 0 rfl rfl 7 (by decide) (hts (.fieldLink RX2 18 "HourWell$Son" "pastThings" "[I") (List.mem_of_getElem? (i := 11) rfl)) (fun _ h9 => h9) rfl dX2_becomeLike_68 ?_
  refine lv_iconst (v := (0 : Int32)) hx hb dX2_becomeLike_71 k_iconst_0 ?_
  refine lv_bipush (v := (12 : Int32)) hx hb dX2_becomeLike_72 k_bipush_12 ?_
  refine va_copyi (f := (vO 8)) (g := (vS 8)) (ty := .int) hx hb (hml.trans hl.1.symm) hown (hts (.methodLink RX2 34 arraycopyName) (List.mem_of_getElem? (i := 6) rfl)) (hts (.native arraycopyName) (List.mem_of_getElem? (i := 7) rfl)) (hts (.static arraycopyName) (List.mem_of_getElem? (i := 8) rfl)) (hts (.initialized "java/lang/System") (List.mem_of_getElem? (i := 9) rfl)) hEN.1 hP hD hS 7 3 0 0 rfl rfl rfl rfl rfl (by decide) (by decide) (by decide) (by decide) (by decide) (fun _ _ => rfl) (Nat.le_of_ble_eq_true rfl) (Nat.le_of_ble_eq_true rfl) dX2_becomeLike_74 (fun H locs hP hD hS => ?_)
  have hP : va_P G vwCl [oX2 aS (st (st (st (st vS 0 0 (vO 0 0)) 0 1 (vO 0 1)) 0 2 (vO 0 2)) 0 3 (vO 0 3)), ai cI (aS 6) 12 (va_cpy (vO 6) (vS 6) (Int32.toNatClampNeg (0 : Int32)) (Int32.toNatClampNeg (0 : Int32)) (Int32.toNatClampNeg (12 : Int32))), ai cI (aS 7) 12 (va_cpy (vO 7) (vS 7) (Int32.toNatClampNeg (0 : Int32)) (Int32.toNatClampNeg (0 : Int32)) (Int32.toNatClampNeg (12 : Int32))), ai cI (aS 8) 12 (va_cpy (vO 8) (vS 8) (Int32.toNatClampNeg (0 : Int32)) (Int32.toNatClampNeg (0 : Int32)) (Int32.toNatClampNeg (12 : Int32))), oX2 aO vO, ai cI (aO 6) 12 (vO 6), ai cI (aO 7) 12 (vO 7), ai cI (aO 8) 12 (vO 8)] H := hP
  have hD : va_D A [oX2 aS (st (st (st (st vS 0 0 (vO 0 0)) 0 1 (vO 0 1)) 0 2 (vO 0 2)) 0 3 (vO 0 3)), ai cI (aS 6) 12 (va_cpy (vO 6) (vS 6) (Int32.toNatClampNeg (0 : Int32)) (Int32.toNatClampNeg (0 : Int32)) (Int32.toNatClampNeg (12 : Int32))), ai cI (aS 7) 12 (va_cpy (vO 7) (vS 7) (Int32.toNatClampNeg (0 : Int32)) (Int32.toNatClampNeg (0 : Int32)) (Int32.toNatClampNeg (12 : Int32))), ai cI (aS 8) 12 (va_cpy (vO 8) (vS 8) (Int32.toNatClampNeg (0 : Int32)) (Int32.toNatClampNeg (0 : Int32)) (Int32.toNatClampNeg (12 : Int32))), oX2 aO vO, ai cI (aO 6) 12 (vO 6), ai cI (aO 7) 12 (vO 7), ai cI (aO 8) 12 (vO 8)] := hD
  have hres := Option.some.inj h
  subst hres
  exact hRet 77 _ _ _ hP hD hS dX2_becomeLike_77
abbrev rm_X2_loseOldest : Room := { frames := 1, cells := 0, slots := 0, locals := 26 }
theorem fi_X2_loseOldest_X2 : ∀ w ∈ wsX20, w ∈ wsX2_loseOldest := fun _ h => List.mem_cons_of_mem _ (List.mem_append_right _ h)
theorem hdV_X2_loseOldest : yX2_loseOldest.cls = RX2 ∧ yX2_loseOldest.cls ≠ "java/lang/invoke/MethodHandle" ∧ yX2_loseOldest.cls ≠ "java/lang/invoke/VarHandle" ∧ (parseMethodDescriptor yX2_loseOldest.desc).map (fun d => d.parameters.length) = some 0 := by decide +kernel
set_option maxRecDepth 100000 in
set_option maxHeartbeats 4000000 in
theorem c_X2_loseOldest (l : Launch) (G : va_G) (cI cZ : ClassId) (aS : Nat → Nat) (vS : Ob)  (res : Ob) (h : m_X2_loseOldest vS  = some res) : Ct l yX2_loseOldest wsX2_loseOldest rm_X2_loseOldest G cI cZ [.ref (aS 0)] [oX2 aS vS, ai cI (aS 6) 12 (vS 6), ai cI (aS 7) 12 (vS 7), ai cI (aS 8) 12 (vS 8)] none [oX2 aS res, ai cI (aS 6) 12 (res 6), ai cI (aS 7) 12 (res 7), ai cI (aS 8) 12 (res 8)] := by
  refine Ct.of_v (maxL := 1) (by decide) rfl (Nat.le_of_ble_eq_true rfl) ?_
  intro p e s m below meth c args hx hb hml hown hts A hA hEN hP hD hS Q hRet ls hl
  have hown : s.vm.findClass RX2 = some m.cls := hown
  have hl : lv_has ls 1 [(0, .ref (aS 0))] := hl
  unfold m_X2_loseOldest at h
  refine lv_aload_n hx hb dX2_loseOldest_0 rfl (lv_at hl 0 rfl) ?_
  refine va_get (D := G) (ci := 2) (v := .ref (aS 6)) (C := RX2) (T := TX2) (N := 8) hx hb hts fi_X2_loseOldest_X2 hown hEN.1 hP 0 rfl rfl 5 (by decide) (hts (.fieldLink RX2 9 "HourWell$Son" "pastPlaces" "[I") (List.mem_of_getElem? (i := 1) rfl)) (fun _ h9 => h9) rfl dX2_loseOldest_1 ?_
  refine lv_iconst (v := (1 : Int32)) hx hb dX2_loseOldest_4 k_iconst_1 ?_
  refine lv_aload_n hx hb dX2_loseOldest_5 rfl (lv_at hl 0 rfl) ?_
  refine va_get (D := G) (ci := 2) (v := .ref (aS 6)) (C := RX2) (T := TX2) (N := 8) hx hb hts fi_X2_loseOldest_X2 hown hEN.1 hP 0 rfl rfl 5 (by decide) (hts (.fieldLink RX2 9 "HourWell$Son" "pastPlaces" "[I") (List.mem_of_getElem? (i := 1) rfl)) (fun _ h9 => h9) rfl dX2_loseOldest_6 ?_
  refine lv_iconst (v := (0 : Int32)) hx hb dX2_loseOldest_9 k_iconst_0 ?_
  refine lv_bipush (v := (11 : Int32)) hx hb dX2_loseOldest_10 k_bipush_11 ?_
  refine va_copyi (f := (vS 6)) (g := (vS 6)) (ty := .int) hx hb (hml.trans hl.1.symm) hown (hts (.methodLink RX2 34 arraycopyName) (List.mem_of_getElem? (i := 2) rfl)) (hts (.native arraycopyName) (List.mem_of_getElem? (i := 3) rfl)) (hts (.static arraycopyName) (List.mem_of_getElem? (i := 4) rfl)) (hts (.initialized "java/lang/System") (List.mem_of_getElem? (i := 5) rfl)) hEN.1 hP hD hS 1 1 0 0 rfl rfl rfl rfl rfl (by decide) (by decide) (by decide) (by decide) (by decide) (fun _ _ => rfl) (Nat.le_of_ble_eq_true rfl) (Nat.le_of_ble_eq_true rfl) dX2_loseOldest_12 (fun H locs hP hD hS => ?_)
  have hP : va_P G vwCl [oX2 aS vS, ai cI (aS 6) 12 (va_cpy (vS 6) (vS 6) (Int32.toNatClampNeg (1 : Int32)) (Int32.toNatClampNeg (0 : Int32)) (Int32.toNatClampNeg (11 : Int32))), ai cI (aS 7) 12 (vS 7), ai cI (aS 8) 12 (vS 8)] H := hP
  have hD : va_D A [oX2 aS vS, ai cI (aS 6) 12 (va_cpy (vS 6) (vS 6) (Int32.toNatClampNeg (1 : Int32)) (Int32.toNatClampNeg (0 : Int32)) (Int32.toNatClampNeg (11 : Int32))), ai cI (aS 7) 12 (vS 7), ai cI (aS 8) 12 (vS 8)] := hD
  refine lv_aload_n hx hb dX2_loseOldest_15 rfl (lv_at hl 0 rfl) ?_
  refine va_get (D := G) (ci := 2) (v := .ref (aS 7)) (C := RX2) (T := TX2) (N := 8) hx hb hts fi_X2_loseOldest_X2 hown hEN.1 hP 0 rfl rfl 6 (by decide) (hts (.fieldLink RX2 15 "HourWell$Son" "pastHours" "[I") (List.mem_of_getElem? (i := 6) rfl)) (fun _ h9 => h9) rfl dX2_loseOldest_16 ?_
  refine lv_iconst (v := (1 : Int32)) hx hb dX2_loseOldest_19 k_iconst_1 ?_
  refine lv_aload_n hx hb dX2_loseOldest_20 rfl (lv_at hl 0 rfl) ?_
  refine va_get (D := G) (ci := 2) (v := .ref (aS 7)) (C := RX2) (T := TX2) (N := 8) hx hb hts fi_X2_loseOldest_X2 hown hEN.1 hP 0 rfl rfl 6 (by decide) (hts (.fieldLink RX2 15 "HourWell$Son" "pastHours" "[I") (List.mem_of_getElem? (i := 6) rfl)) (fun _ h9 => h9) rfl dX2_loseOldest_21 ?_
  refine lv_iconst (v := (0 : Int32)) hx hb dX2_loseOldest_24 k_iconst_0 ?_
  refine lv_bipush (v := (11 : Int32)) hx hb dX2_loseOldest_25 k_bipush_11 ?_
  refine va_copyi (f := (vS 7)) (g := (vS 7)) (ty := .int) hx hb (hml.trans hl.1.symm) hown (hts (.methodLink RX2 34 arraycopyName) (List.mem_of_getElem? (i := 2) rfl)) (hts (.native arraycopyName) (List.mem_of_getElem? (i := 3) rfl)) (hts (.static arraycopyName) (List.mem_of_getElem? (i := 4) rfl)) (hts (.initialized "java/lang/System") (List.mem_of_getElem? (i := 5) rfl)) hEN.1 hP hD hS 2 2 0 0 rfl rfl rfl rfl rfl (by decide) (by decide) (by decide) (by decide) (by decide) (fun _ _ => rfl) (Nat.le_of_ble_eq_true rfl) (Nat.le_of_ble_eq_true rfl) dX2_loseOldest_27 (fun H locs hP hD hS => ?_)
  have hP : va_P G vwCl [oX2 aS vS, ai cI (aS 6) 12 (va_cpy (vS 6) (vS 6) (Int32.toNatClampNeg (1 : Int32)) (Int32.toNatClampNeg (0 : Int32)) (Int32.toNatClampNeg (11 : Int32))), ai cI (aS 7) 12 (va_cpy (vS 7) (vS 7) (Int32.toNatClampNeg (1 : Int32)) (Int32.toNatClampNeg (0 : Int32)) (Int32.toNatClampNeg (11 : Int32))), ai cI (aS 8) 12 (vS 8)] H := hP
  have hD : va_D A [oX2 aS vS, ai cI (aS 6) 12 (va_cpy (vS 6) (vS 6) (Int32.toNatClampNeg (1 : Int32)) (Int32.toNatClampNeg (0 : Int32)) (Int32.toNatClampNeg (11 : Int32))), ai cI (aS 7) 12 (va_cpy (vS 7) (vS 7) (Int32.toNatClampNeg (1 : Int32)) (Int32.toNatClampNeg (0 : Int32)) (Int32.toNatClampNeg (11 : Int32))), ai cI (aS 8) 12 (vS 8)] := hD
  refine lv_aload_n hx hb dX2_loseOldest_30 rfl (lv_at hl 0 rfl) ?_
  refine va_get (D := G) (ci := 2) (v := .ref (aS 8)) (C := RX2) (T := TX2) (N := 8) hx hb hts fi_X2_loseOldest_X2 hown hEN.1 hP 0 rfl rfl 7 (by decide) (hts (.fieldLink RX2 18 "HourWell$Son" "pastThings" "[I") (List.mem_of_getElem? (i := 7) rfl)) (fun _ h9 => h9) rfl dX2_loseOldest_31 ?_
  refine lv_iconst (v := (1 : Int32)) hx hb dX2_loseOldest_34 k_iconst_1 ?_
  refine lv_aload_n hx hb dX2_loseOldest_35 rfl (lv_at hl 0 rfl) ?_
  refine va_get (D := G) (ci := 2) (v := .ref (aS 8)) (C := RX2) (T := TX2) (N := 8) hx hb hts fi_X2_loseOldest_X2 hown hEN.1 hP 0 rfl rfl 7 (by decide) (hts (.fieldLink RX2 18 "HourWell$Son" "pastThings" "[I") (List.mem_of_getElem? (i := 7) rfl)) (fun _ h9 => h9) rfl dX2_loseOldest_36 ?_
  refine lv_iconst (v := (0 : Int32)) hx hb dX2_loseOldest_39 k_iconst_0 ?_
  refine lv_bipush (v := (11 : Int32)) hx hb dX2_loseOldest_40 k_bipush_11 ?_
  refine va_copyi (f := (vS 8)) (g := (vS 8)) (ty := .int) hx hb (hml.trans hl.1.symm) hown (hts (.methodLink RX2 34 arraycopyName) (List.mem_of_getElem? (i := 2) rfl)) (hts (.native arraycopyName) (List.mem_of_getElem? (i := 3) rfl)) (hts (.static arraycopyName) (List.mem_of_getElem? (i := 4) rfl)) (hts (.initialized "java/lang/System") (List.mem_of_getElem? (i := 5) rfl)) hEN.1 hP hD hS 3 3 0 0 rfl rfl rfl rfl rfl (by decide) (by decide) (by decide) (by decide) (by decide) (fun _ _ => rfl) (Nat.le_of_ble_eq_true rfl) (Nat.le_of_ble_eq_true rfl) dX2_loseOldest_42 (fun H locs hP hD hS => ?_)
  have hP : va_P G vwCl [oX2 aS vS, ai cI (aS 6) 12 (va_cpy (vS 6) (vS 6) (Int32.toNatClampNeg (1 : Int32)) (Int32.toNatClampNeg (0 : Int32)) (Int32.toNatClampNeg (11 : Int32))), ai cI (aS 7) 12 (va_cpy (vS 7) (vS 7) (Int32.toNatClampNeg (1 : Int32)) (Int32.toNatClampNeg (0 : Int32)) (Int32.toNatClampNeg (11 : Int32))), ai cI (aS 8) 12 (va_cpy (vS 8) (vS 8) (Int32.toNatClampNeg (1 : Int32)) (Int32.toNatClampNeg (0 : Int32)) (Int32.toNatClampNeg (11 : Int32)))] H := hP
  have hD : va_D A [oX2 aS vS, ai cI (aS 6) 12 (va_cpy (vS 6) (vS 6) (Int32.toNatClampNeg (1 : Int32)) (Int32.toNatClampNeg (0 : Int32)) (Int32.toNatClampNeg (11 : Int32))), ai cI (aS 7) 12 (va_cpy (vS 7) (vS 7) (Int32.toNatClampNeg (1 : Int32)) (Int32.toNatClampNeg (0 : Int32)) (Int32.toNatClampNeg (11 : Int32))), ai cI (aS 8) 12 (va_cpy (vS 8) (vS 8) (Int32.toNatClampNeg (1 : Int32)) (Int32.toNatClampNeg (0 : Int32)) (Int32.toNatClampNeg (11 : Int32)))] := hD
  refine lv_aload_n hx hb dX2_loseOldest_45 rfl (lv_at hl 0 rfl) ?_
  refine lv_bipush (v := (11 : Int32)) hx hb dX2_loseOldest_46 k_bipush_11 ?_
  refine va_put (D := G) (ci := 2) (v := .int (11 : Int32)) (ty := .int) (C := RX2) (T := TX2) (N := 8) hx hb hts fi_X2_loseOldest_X2 tyX2 tyX2_ok nmX2 hown hEN.1 hP hD hS 0 rfl rfl 3 (by decide) (hts (.fieldLink RX2 31 "HourWell$Son" "known" "I") (List.mem_of_getElem? (i := 8) rfl)) (fun _ h9 => h9) rfl (by decide +kernel) rfl rfl (Nat.le_of_ble_eq_true rfl) dX2_loseOldest_48 (fun H locs hP hD hS => ?_)
  have hP : va_P G vwCl [oX2 aS (st vS 0 3 (11 : Int32)), ai cI (aS 6) 12 (va_cpy (vS 6) (vS 6) (Int32.toNatClampNeg (1 : Int32)) (Int32.toNatClampNeg (0 : Int32)) (Int32.toNatClampNeg (11 : Int32))), ai cI (aS 7) 12 (va_cpy (vS 7) (vS 7) (Int32.toNatClampNeg (1 : Int32)) (Int32.toNatClampNeg (0 : Int32)) (Int32.toNatClampNeg (11 : Int32))), ai cI (aS 8) 12 (va_cpy (vS 8) (vS 8) (Int32.toNatClampNeg (1 : Int32)) (Int32.toNatClampNeg (0 : Int32)) (Int32.toNatClampNeg (11 : Int32)))] H := hP
  have hD : va_D A [oX2 aS (st vS 0 3 (11 : Int32)), ai cI (aS 6) 12 (va_cpy (vS 6) (vS 6) (Int32.toNatClampNeg (1 : Int32)) (Int32.toNatClampNeg (0 : Int32)) (Int32.toNatClampNeg (11 : Int32))), ai cI (aS 7) 12 (va_cpy (vS 7) (vS 7) (Int32.toNatClampNeg (1 : Int32)) (Int32.toNatClampNeg (0 : Int32)) (Int32.toNatClampNeg (11 : Int32))), ai cI (aS 8) 12 (va_cpy (vS 8) (vS 8) (Int32.toNatClampNeg (1 : Int32)) (Int32.toNatClampNeg (0 : Int32)) (Int32.toNatClampNeg (11 : Int32)))] := hD
  have hres := Option.some.inj h
  subst hres
  exact hRet 51 _ _ _ hP hD hS dX2_loseOldest_51
abbrev rm_X2_remember : Room := { frames := 2, cells := 0, slots := 0, locals := 46 }
theorem fi_X2_remember_X2 : ∀ w ∈ wsX20, w ∈ wsX2_remember := fun _ h => List.mem_cons_of_mem _ (List.mem_append_right _ h)
theorem hdV_X2_remember : yX2_remember.cls = RX2 ∧ yX2_remember.cls ≠ "java/lang/invoke/MethodHandle" ∧ yX2_remember.cls ≠ "java/lang/invoke/VarHandle" ∧ (parseMethodDescriptor yX2_remember.desc).map (fun d => d.parameters.length) = some 0 := by decide +kernel
set_option maxRecDepth 100000 in
set_option maxHeartbeats 4000000 in
theorem c_X2_remember (l : Launch) (G : va_G) (cI cZ : ClassId) (aS : Nat → Nat) (vS : Ob)  (res : Ob) (h : m_X2_remember vS  = some res) : Ct l yX2_remember wsX2_remember rm_X2_remember G cI cZ [.ref (aS 0)] [oX2 aS vS, ai cI (aS 6) 12 (vS 6), ai cI (aS 7) 12 (vS 7), ai cI (aS 8) 12 (vS 8)] none [oX2 aS res, ai cI (aS 6) 12 (res 6), ai cI (aS 7) 12 (res 7), ai cI (aS 8) 12 (res 8)] := by
  refine Ct.of_v (maxL := 1) (by decide) rfl (Nat.le_of_ble_eq_true rfl) ?_
  intro p e s m below meth c args hx hb hml hown hts A hA hEN hP hD hS Q hRet ls hl
  have hown : s.vm.findClass RX2 = some m.cls := hown
  have hl : lv_has ls 1 [(0, .ref (aS 0))] := hl
  have j13 : ∀ (vS : Ob), m_X2_remember_j13  vS = some res → ∀ (H : Heap) (locs : List Loc) (ls : Array Slot), va_P G vwCl [oX2 aS vS, ai cI (aS 6) 12 (vS 6), ai cI (aS 7) 12 (vS 7), ai cI (aS 8) 12 (vS 8)] H → va_D A [oX2 aS vS, ai cI (aS 6) 12 (vS 6), ai cI (aS 7) 12 (vS 7), ai cI (aS 8) 12 (vS 8)] → va_S A s.heap H locs → lv_has ls 1 [(0, .ref (aS 0))] → W p l e rm_X2_remember s m args below meth c H locs 0 0 Q (F0 m 13 ls []) := by
    intro vS h H locs ls hP hD hS hl
    unfold m_X2_remember_j13 at h
    refine lv_aload_n hx hb dX2_remember_13 rfl (lv_at hl 0 rfl) ?_
    refine va_get (D := G) (ci := 2) (v := .int (vS 0 3)) (C := RX2) (T := TX2) (N := 8) hx hb hts fi_X2_remember_X2 hown hEN.1 hP 0 rfl rfl 3 (by decide) (hts (.fieldLink RX2 31 "HourWell$Son" "known" "I") (List.mem_of_getElem? (i := 1) rfl)) (fun _ h9 => h9) rfl dX2_remember_14 ?_
    refine lv_iconst (v := (0 : Int32)) hx hb dX2_remember_17 k_iconst_0 ?_
    refine lv_bipush (v := (11 : Int32)) hx hb dX2_remember_18 k_bipush_11 ?_
    obtain ⟨o20, ho20, h⟩ := bnd_some h
    refine call_SN0 (As := [.int (vS 0 3), .int (0 : Int32), .int (11 : Int32)]) (rest := []) ⟨hx, hb, hml, hown, hts⟩ (c_X5_isWithin l G cI cZ  (vS 0 3) (0 : Int32) (11 : Int32) o20 ho20) ⟨va_cnB 3 hts gX2_remember_X5_isWithin_n43 rfl rfl rfl (hEN.2.1 _ (List.mem_of_getElem? (i := 6) rfl)) (hts (.initialized RX5) (List.mem_of_getElem? (i := 18) rfl)) hdS_X5_isWithin ⟨Nat.le_of_ble_eq_true rfl, Nat.le_of_ble_eq_true rfl⟩, hts (.static yX5_isWithin) (List.mem_of_getElem? (i := 17) rfl), trivial⟩ hEN hA hP hD hS [] rfl (by decide) rfl hl.1 rfl (Nat.le_of_ble_eq_true rfl) dX2_remember_20 ⟨Nat.le_of_ble_eq_true rfl, Nat.le_of_ble_eq_true rfl⟩ (fun H locs hP hS => ?_)
    refine lv_if_ne (tgt := 27) hx hb dX2_remember_23 (by decide) (fun c23 => ?_) (fun c23 => ?_)
    · have h := (if_neg c23).symm.trans h
      refine lv_aload_n hx hb dX2_remember_27 rfl (lv_at hl 0 rfl) ?_
      refine va_get (D := G) (ci := 2) (v := .ref (aS 6)) (C := RX2) (T := TX2) (N := 8) hx hb hts fi_X2_remember_X2 hown hEN.1 hP 0 rfl rfl 5 (by decide) (hts (.fieldLink RX2 9 "HourWell$Son" "pastPlaces" "[I") (List.mem_of_getElem? (i := 2) rfl)) (fun _ h9 => h9) rfl dX2_remember_28 ?_
      refine lv_aload_n hx hb dX2_remember_31 rfl (lv_at hl 0 rfl) ?_
      refine va_get (D := G) (ci := 2) (v := .int (vS 0 3)) (C := RX2) (T := TX2) (N := 8) hx hb hts fi_X2_remember_X2 hown hEN.1 hP 0 rfl rfl 3 (by decide) (hts (.fieldLink RX2 31 "HourWell$Son" "known" "I") (List.mem_of_getElem? (i := 1) rfl)) (fun _ h9 => h9) rfl dX2_remember_32 ?_
      refine lv_aload_n hx hb dX2_remember_35 rfl (lv_at hl 0 rfl) ?_
      refine va_get (D := G) (ci := 2) (v := .int (vS 0 0)) (C := RX2) (T := TX2) (N := 8) hx hb hts fi_X2_remember_X2 hown hEN.1 hP 0 rfl rfl 0 (by decide) (hts (.fieldLink RX2 21 "HourWell$Son" "place" "I") (List.mem_of_getElem? (i := 3) rfl)) (fun _ h9 => h9) rfl dX2_remember_36 ?_
      obtain ⟨hg39, h⟩ := grd_some h
      refine va_iast (f := (vS 6)) hx hb hEN.1 hP hD hS 1 0 rfl rfl (inb_in hg39) dX2_remember_39 (fun H locs hP hD hS => ?_)
      have hP : va_P G vwCl [oX2 aS vS, ai cI (aS 6) 12 (upd (vS 6) (Int32.toNatClampNeg (vS 0 3)) (vS 0 0)), ai cI (aS 7) 12 (vS 7), ai cI (aS 8) 12 (vS 8)] H := hP
      have hD : va_D A [oX2 aS vS, ai cI (aS 6) 12 (upd (vS 6) (Int32.toNatClampNeg (vS 0 3)) (vS 0 0)), ai cI (aS 7) 12 (vS 7), ai cI (aS 8) 12 (vS 8)] := hD
      refine lv_aload_n hx hb dX2_remember_40 rfl (lv_at hl 0 rfl) ?_
      refine va_get (D := G) (ci := 2) (v := .ref (aS 7)) (C := RX2) (T := TX2) (N := 8) hx hb hts fi_X2_remember_X2 hown hEN.1 hP 0 rfl rfl 6 (by decide) (hts (.fieldLink RX2 15 "HourWell$Son" "pastHours" "[I") (List.mem_of_getElem? (i := 4) rfl)) (fun _ h9 => h9) rfl dX2_remember_41 ?_
      refine lv_aload_n hx hb dX2_remember_44 rfl (lv_at hl 0 rfl) ?_
      refine va_get (D := G) (ci := 2) (v := .int (vS 0 3)) (C := RX2) (T := TX2) (N := 8) hx hb hts fi_X2_remember_X2 hown hEN.1 hP 0 rfl rfl 3 (by decide) (hts (.fieldLink RX2 31 "HourWell$Son" "known" "I") (List.mem_of_getElem? (i := 1) rfl)) (fun _ h9 => h9) rfl dX2_remember_45 ?_
      refine lv_aload_n hx hb dX2_remember_48 rfl (lv_at hl 0 rfl) ?_
      refine va_get (D := G) (ci := 2) (v := .int (vS 0 1)) (C := RX2) (T := TX2) (N := 8) hx hb hts fi_X2_remember_X2 hown hEN.1 hP 0 rfl rfl 1 (by decide) (hts (.fieldLink RX2 25 "HourWell$Son" "hour" "I") (List.mem_of_getElem? (i := 5) rfl)) (fun _ h9 => h9) rfl dX2_remember_49 ?_
      obtain ⟨hg52, h⟩ := grd_some h
      refine va_iast (f := (vS 7)) hx hb hEN.1 hP hD hS 2 0 rfl rfl (inb_in hg52) dX2_remember_52 (fun H locs hP hD hS => ?_)
      have hP : va_P G vwCl [oX2 aS vS, ai cI (aS 6) 12 (upd (vS 6) (Int32.toNatClampNeg (vS 0 3)) (vS 0 0)), ai cI (aS 7) 12 (upd (vS 7) (Int32.toNatClampNeg (vS 0 3)) (vS 0 1)), ai cI (aS 8) 12 (vS 8)] H := hP
      have hD : va_D A [oX2 aS vS, ai cI (aS 6) 12 (upd (vS 6) (Int32.toNatClampNeg (vS 0 3)) (vS 0 0)), ai cI (aS 7) 12 (upd (vS 7) (Int32.toNatClampNeg (vS 0 3)) (vS 0 1)), ai cI (aS 8) 12 (vS 8)] := hD
      refine lv_aload_n hx hb dX2_remember_53 rfl (lv_at hl 0 rfl) ?_
      refine va_get (D := G) (ci := 2) (v := .ref (aS 8)) (C := RX2) (T := TX2) (N := 8) hx hb hts fi_X2_remember_X2 hown hEN.1 hP 0 rfl rfl 7 (by decide) (hts (.fieldLink RX2 18 "HourWell$Son" "pastThings" "[I") (List.mem_of_getElem? (i := 6) rfl)) (fun _ h9 => h9) rfl dX2_remember_54 ?_
      refine lv_aload_n hx hb dX2_remember_57 rfl (lv_at hl 0 rfl) ?_
      refine va_get (D := G) (ci := 2) (v := .int (vS 0 3)) (C := RX2) (T := TX2) (N := 8) hx hb hts fi_X2_remember_X2 hown hEN.1 hP 0 rfl rfl 3 (by decide) (hts (.fieldLink RX2 31 "HourWell$Son" "known" "I") (List.mem_of_getElem? (i := 1) rfl)) (fun _ h9 => h9) rfl dX2_remember_58 ?_
      refine lv_aload_n hx hb dX2_remember_61 rfl (lv_at hl 0 rfl) ?_
      refine va_get (D := G) (ci := 2) (v := .int (vS 0 2)) (C := RX2) (T := TX2) (N := 8) hx hb hts fi_X2_remember_X2 hown hEN.1 hP 0 rfl rfl 2 (by decide) (hts (.fieldLink RX2 28 "HourWell$Son" "things" "I") (List.mem_of_getElem? (i := 7) rfl)) (fun _ h9 => h9) rfl dX2_remember_62 ?_
      obtain ⟨hg65, h⟩ := grd_some h
      refine va_iast (f := (vS 8)) hx hb hEN.1 hP hD hS 3 0 rfl rfl (inb_in hg65) dX2_remember_65 (fun H locs hP hD hS => ?_)
      have hP : va_P G vwCl [oX2 aS vS, ai cI (aS 6) 12 (upd (vS 6) (Int32.toNatClampNeg (vS 0 3)) (vS 0 0)), ai cI (aS 7) 12 (upd (vS 7) (Int32.toNatClampNeg (vS 0 3)) (vS 0 1)), ai cI (aS 8) 12 (upd (vS 8) (Int32.toNatClampNeg (vS 0 3)) (vS 0 2))] H := hP
      have hD : va_D A [oX2 aS vS, ai cI (aS 6) 12 (upd (vS 6) (Int32.toNatClampNeg (vS 0 3)) (vS 0 0)), ai cI (aS 7) 12 (upd (vS 7) (Int32.toNatClampNeg (vS 0 3)) (vS 0 1)), ai cI (aS 8) 12 (upd (vS 8) (Int32.toNatClampNeg (vS 0 3)) (vS 0 2))] := hD
      refine lv_aload_n hx hb dX2_remember_66 rfl (lv_at hl 0 rfl) ?_
      refine lv_dup hx hb dX2_remember_67 rfl ?_
      refine va_get (D := G) (ci := 2) (v := .int (vS 0 3)) (C := RX2) (T := TX2) (N := 8) hx hb hts fi_X2_remember_X2 hown hEN.1 hP 0 rfl rfl 3 (by decide) (hts (.fieldLink RX2 31 "HourWell$Son" "known" "I") (List.mem_of_getElem? (i := 1) rfl)) (fun _ h9 => h9) rfl dX2_remember_68 ?_
      refine lv_iconst (v := (1 : Int32)) hx hb dX2_remember_71 k_iconst_1 ?_
      refine lv_iadd hx hb dX2_remember_72 ?_
      refine va_put (D := G) (ci := 2) (v := .int ((vS 0 3) + (1 : Int32))) (ty := .int) (C := RX2) (T := TX2) (N := 8) hx hb hts fi_X2_remember_X2 tyX2 tyX2_ok nmX2 hown hEN.1 hP hD hS 0 rfl rfl 3 (by decide) (hts (.fieldLink RX2 31 "HourWell$Son" "known" "I") (List.mem_of_getElem? (i := 1) rfl)) (fun _ h9 => h9) rfl (by decide +kernel) rfl rfl (Nat.le_of_ble_eq_true rfl) dX2_remember_73 (fun H locs hP hD hS => ?_)
      have hP : va_P G vwCl [oX2 aS (st vS 0 3 ((vS 0 3) + (1 : Int32))), ai cI (aS 6) 12 (upd (vS 6) (Int32.toNatClampNeg (vS 0 3)) (vS 0 0)), ai cI (aS 7) 12 (upd (vS 7) (Int32.toNatClampNeg (vS 0 3)) (vS 0 1)), ai cI (aS 8) 12 (upd (vS 8) (Int32.toNatClampNeg (vS 0 3)) (vS 0 2))] H := hP
      have hD : va_D A [oX2 aS (st vS 0 3 ((vS 0 3) + (1 : Int32))), ai cI (aS 6) 12 (upd (vS 6) (Int32.toNatClampNeg (vS 0 3)) (vS 0 0)), ai cI (aS 7) 12 (upd (vS 7) (Int32.toNatClampNeg (vS 0 3)) (vS 0 1)), ai cI (aS 8) 12 (upd (vS 8) (Int32.toNatClampNeg (vS 0 3)) (vS 0 2))] := hD
      have hres := Option.some.inj h
      subst hres
      exact hRet 76 _ _ _ hP hD hS dX2_remember_76
    · have h := (if_pos c23).symm.trans h
      have hres := Option.some.inj h
      subst hres
      exact hRet 26 _ _ _ hP hD hS dX2_remember_26
  unfold m_X2_remember at h
  refine lv_aload_n hx hb dX2_remember_0 rfl (lv_at hl 0 rfl) ?_
  refine va_get (D := G) (ci := 2) (v := .int (vS 0 3)) (C := RX2) (T := TX2) (N := 8) hx hb hts fi_X2_remember_X2 hown hEN.1 hP 0 rfl rfl 3 (by decide) (hts (.fieldLink RX2 31 "HourWell$Son" "known" "I") (List.mem_of_getElem? (i := 1) rfl)) (fun _ h9 => h9) rfl dX2_remember_1 ?_
  refine lv_bipush (v := (12 : Int32)) hx hb dX2_remember_4 k_bipush_12 ?_
  refine lv_icmp_lt (tgt := 13) hx hb dX2_remember_6 (by decide) (fun c6 => ?_) (fun c6 => ?_)
  · have h := (if_pos c6).symm.trans h
    exact j13 vS h _ _ _ hP hD hS (lv_sub hl [0] rfl)
  · have h := (if_neg c6).symm.trans h
    refine lv_aload_n hx hb dX2_remember_9 rfl (lv_at hl 0 rfl) ?_
    obtain ⟨o10, ho10, h⟩ := bnd_some h
    refine call_VJ (wr := []) (As := []) (rest := []) ⟨hx, hb, hml, hown, hts⟩ (c_X2_loseOldest l G cI cZ aS vS o10 ho10) (cwV 0 hts gX2_remember_X2_loseOldest rfl rfl rfl hdV_X2_loseOldest ⟨Nat.le_of_ble_eq_true rfl, Nat.le_of_ble_eq_true rfl⟩) hEN hA hP hD hS [0, 1, 2, 3] [] rfl (by decide) rfl (by decide) (by decide) 0 rfl rfl rfl hl.1 rfl (Nat.le_of_ble_eq_true rfl) dX2_remember_10 ⟨Nat.le_of_ble_eq_true rfl, Nat.le_of_ble_eq_true rfl⟩ (fun H locs hP hD hS => ?_)
    have hP : va_P G vwCl [oX2 aS o10, ai cI (aS 6) 12 (o10 6), ai cI (aS 7) 12 (o10 7), ai cI (aS 8) 12 (o10 8)] H := hP
    have hD : va_D A [oX2 aS o10, ai cI (aS 6) 12 (o10 6), ai cI (aS 7) 12 (o10 7), ai cI (aS 8) 12 (o10 8)] := hD
    exact j13 o10 h _ _ _ hP hD hS (lv_sub hl [0] rfl)
abbrev rm_X2_recall : Room := { frames := 1, cells := 0, slots := 0, locals := 22 }
theorem fi_X2_recall_X2 : ∀ w ∈ wsX20, w ∈ wsX2_recall := fun _ h => List.mem_cons_of_mem _ (List.mem_append_right _ h)
theorem hdV_X2_recall : yX2_recall.cls = RX2 ∧ yX2_recall.cls ≠ "java/lang/invoke/MethodHandle" ∧ yX2_recall.cls ≠ "java/lang/invoke/VarHandle" ∧ (parseMethodDescriptor yX2_recall.desc).map (fun d => d.parameters.length) = some 0 := by decide +kernel
set_option maxRecDepth 100000 in
set_option maxHeartbeats 4000000 in
theorem c_X2_recall (l : Launch) (G : va_G) (cI cZ : ClassId) (aS : Nat → Nat) (vS : Ob)  (res : Ob) (h : m_X2_recall vS  = some res) : Ct l yX2_recall wsX2_recall rm_X2_recall G cI cZ [.ref (aS 0)] [oX2 aS vS, ai cI (aS 6) 12 (vS 6), ai cI (aS 7) 12 (vS 7), ai cI (aS 8) 12 (vS 8)] none [oX2 aS res, ai cI (aS 6) 12 (res 6), ai cI (aS 7) 12 (res 7), ai cI (aS 8) 12 (res 8)] := by
  refine Ct.of_v (maxL := 1) (by decide) rfl (Nat.le_of_ble_eq_true rfl) ?_
  intro p e s m below meth c args hx hb hml hown hts A hA hEN hP hD hS Q hRet ls hl
  have hown : s.vm.findClass RX2 = some m.cls := hown
  have hl : lv_has ls 1 [(0, .ref (aS 0))] := hl
  unfold m_X2_recall at h
  refine lv_aload_n hx hb dX2_recall_0 rfl (lv_at hl 0 rfl) ?_
  refine va_get (D := G) (ci := 2) (v := .int (vS 0 3)) (C := RX2) (T := TX2) (N := 8) hx hb hts fi_X2_recall_X2 hown hEN.1 hP 0 rfl rfl 3 (by decide) (hts (.fieldLink RX2 31 "HourWell$Son" "known" "I") (List.mem_of_getElem? (i := 1) rfl)) (fun _ h9 => h9) rfl dX2_recall_1 ?_
  refine lv_iconst (v := (1 : Int32)) hx hb dX2_recall_4 k_iconst_1 ?_
  refine lv_bipush (v := (12 : Int32)) hx hb dX2_recall_5 k_bipush_12 ?_
  obtain ⟨o7, ho7, h⟩ := bnd_some h
  refine call_SN0 (As := [.int (vS 0 3), .int (1 : Int32), .int (12 : Int32)]) (rest := []) ⟨hx, hb, hml, hown, hts⟩ (c_X5_isWithin l G cI cZ  (vS 0 3) (1 : Int32) (12 : Int32) o7 ho7) ⟨va_cnB 3 hts gX2_recall_X5_isWithin_n43 rfl rfl rfl (hEN.2.1 _ (List.mem_of_getElem? (i := 6) rfl)) (hts (.initialized RX5) (List.mem_of_getElem? (i := 9) rfl)) hdS_X5_isWithin ⟨Nat.le_of_ble_eq_true rfl, Nat.le_of_ble_eq_true rfl⟩, hts (.static yX5_isWithin) (List.mem_of_getElem? (i := 8) rfl), trivial⟩ hEN hA hP hD hS [] rfl (by decide) rfl hl.1 rfl (Nat.le_of_ble_eq_true rfl) dX2_recall_7 ⟨Nat.le_of_ble_eq_true rfl, Nat.le_of_ble_eq_true rfl⟩ (fun H locs hP hS => ?_)
  refine lv_if_ne (tgt := 14) hx hb dX2_recall_10 (by decide) (fun c10 => ?_) (fun c10 => ?_)
  · have h := (if_neg c10).symm.trans h
    refine lv_aload_n hx hb dX2_recall_14 rfl (lv_at hl 0 rfl) ?_
    refine lv_dup hx hb dX2_recall_15 rfl ?_
    refine va_get (D := G) (ci := 2) (v := .int (vS 0 3)) (C := RX2) (T := TX2) (N := 8) hx hb hts fi_X2_recall_X2 hown hEN.1 hP 0 rfl rfl 3 (by decide) (hts (.fieldLink RX2 31 "HourWell$Son" "known" "I") (List.mem_of_getElem? (i := 1) rfl)) (fun _ h9 => h9) rfl dX2_recall_16 ?_
    refine lv_iconst (v := (1 : Int32)) hx hb dX2_recall_19 k_iconst_1 ?_
    refine lv_isub hx hb dX2_recall_20 ?_
    refine va_put (D := G) (ci := 2) (v := .int ((vS 0 3) - (1 : Int32))) (ty := .int) (C := RX2) (T := TX2) (N := 8) hx hb hts fi_X2_recall_X2 tyX2 tyX2_ok nmX2 hown hEN.1 hP hD hS 0 rfl rfl 3 (by decide) (hts (.fieldLink RX2 31 "HourWell$Son" "known" "I") (List.mem_of_getElem? (i := 1) rfl)) (fun _ h9 => h9) rfl (by decide +kernel) rfl rfl (Nat.le_of_ble_eq_true rfl) dX2_recall_21 (fun H locs hP hD hS => ?_)
    have hP : va_P G vwCl [oX2 aS (st vS 0 3 ((vS 0 3) - (1 : Int32))), ai cI (aS 6) 12 (vS 6), ai cI (aS 7) 12 (vS 7), ai cI (aS 8) 12 (vS 8)] H := hP
    have hD : va_D A [oX2 aS (st vS 0 3 ((vS 0 3) - (1 : Int32))), ai cI (aS 6) 12 (vS 6), ai cI (aS 7) 12 (vS 7), ai cI (aS 8) 12 (vS 8)] := hD
    refine lv_aload_n hx hb dX2_recall_24 rfl (lv_at hl 0 rfl) ?_
    refine lv_aload_n hx hb dX2_recall_25 rfl (lv_at hl 0 rfl) ?_
    refine va_get (D := G) (ci := 2) (v := .ref (aS 6)) (C := RX2) (T := TX2) (N := 8) hx hb hts fi_X2_recall_X2 hown hEN.1 hP 0 rfl rfl 5 (by decide) (hts (.fieldLink RX2 9 "HourWell$Son" "pastPlaces" "[I") (List.mem_of_getElem? (i := 2) rfl)) (fun _ h9 => h9) rfl dX2_recall_26 ?_
    refine lv_aload_n hx hb dX2_recall_29 rfl (lv_at hl 0 rfl) ?_
    refine va_get (D := G) (ci := 2) (v := .int ((vS 0 3) - (1 : Int32))) (C := RX2) (T := TX2) (N := 8) hx hb hts fi_X2_recall_X2 hown hEN.1 hP 0 rfl rfl 3 (by decide) (hts (.fieldLink RX2 31 "HourWell$Son" "known" "I") (List.mem_of_getElem? (i := 1) rfl)) (fun _ h9 => h9) rfl dX2_recall_30 ?_
    obtain ⟨hg33, h⟩ := grd_some h
    refine va_iald (f := (vS 6)) hx hb hEN.1 hP 1 0 rfl rfl (inb_in hg33) dX2_recall_33 ?_
    refine va_put (D := G) (ci := 2) (v := .int ((vS 6) (Int32.toNatClampNeg ((vS 0 3) - (1 : Int32))))) (ty := .int) (C := RX2) (T := TX2) (N := 8) hx hb hts fi_X2_recall_X2 tyX2 tyX2_ok nmX2 hown hEN.1 hP hD hS 0 rfl rfl 0 (by decide) (hts (.fieldLink RX2 21 "HourWell$Son" "place" "I") (List.mem_of_getElem? (i := 3) rfl)) (fun _ h9 => h9) rfl (by decide +kernel) rfl rfl (Nat.le_of_ble_eq_true rfl) dX2_recall_34 (fun H locs hP hD hS => ?_)
    have hP : va_P G vwCl [oX2 aS (st (st vS 0 3 ((vS 0 3) - (1 : Int32))) 0 0 ((vS 6) (Int32.toNatClampNeg ((vS 0 3) - (1 : Int32))))), ai cI (aS 6) 12 (vS 6), ai cI (aS 7) 12 (vS 7), ai cI (aS 8) 12 (vS 8)] H := hP
    have hD : va_D A [oX2 aS (st (st vS 0 3 ((vS 0 3) - (1 : Int32))) 0 0 ((vS 6) (Int32.toNatClampNeg ((vS 0 3) - (1 : Int32))))), ai cI (aS 6) 12 (vS 6), ai cI (aS 7) 12 (vS 7), ai cI (aS 8) 12 (vS 8)] := hD
    refine lv_aload_n hx hb dX2_recall_37 rfl (lv_at hl 0 rfl) ?_
    refine lv_aload_n hx hb dX2_recall_38 rfl (lv_at hl 0 rfl) ?_
    refine va_get (D := G) (ci := 2) (v := .ref (aS 7)) (C := RX2) (T := TX2) (N := 8) hx hb hts fi_X2_recall_X2 hown hEN.1 hP 0 rfl rfl 6 (by decide) (hts (.fieldLink RX2 15 "HourWell$Son" "pastHours" "[I") (List.mem_of_getElem? (i := 4) rfl)) (fun _ h9 => h9) rfl dX2_recall_39 ?_
    refine lv_aload_n hx hb dX2_recall_42 rfl (lv_at hl 0 rfl) ?_
    refine va_get (D := G) (ci := 2) (v := .int ((vS 0 3) - (1 : Int32))) (C := RX2) (T := TX2) (N := 8) hx hb hts fi_X2_recall_X2 hown hEN.1 hP 0 rfl rfl 3 (by decide) (hts (.fieldLink RX2 31 "HourWell$Son" "known" "I") (List.mem_of_getElem? (i := 1) rfl)) (fun _ h9 => h9) rfl dX2_recall_43 ?_
    obtain ⟨hg46, h⟩ := grd_some h
    refine va_iald (f := (vS 7)) hx hb hEN.1 hP 2 0 rfl rfl (inb_in hg46) dX2_recall_46 ?_
    refine va_put (D := G) (ci := 2) (v := .int ((vS 7) (Int32.toNatClampNeg ((vS 0 3) - (1 : Int32))))) (ty := .int) (C := RX2) (T := TX2) (N := 8) hx hb hts fi_X2_recall_X2 tyX2 tyX2_ok nmX2 hown hEN.1 hP hD hS 0 rfl rfl 1 (by decide) (hts (.fieldLink RX2 25 "HourWell$Son" "hour" "I") (List.mem_of_getElem? (i := 5) rfl)) (fun _ h9 => h9) rfl (by decide +kernel) rfl rfl (Nat.le_of_ble_eq_true rfl) dX2_recall_47 (fun H locs hP hD hS => ?_)
    have hP : va_P G vwCl [oX2 aS (st (st (st vS 0 3 ((vS 0 3) - (1 : Int32))) 0 0 ((vS 6) (Int32.toNatClampNeg ((vS 0 3) - (1 : Int32))))) 0 1 ((vS 7) (Int32.toNatClampNeg ((vS 0 3) - (1 : Int32))))), ai cI (aS 6) 12 (vS 6), ai cI (aS 7) 12 (vS 7), ai cI (aS 8) 12 (vS 8)] H := hP
    have hD : va_D A [oX2 aS (st (st (st vS 0 3 ((vS 0 3) - (1 : Int32))) 0 0 ((vS 6) (Int32.toNatClampNeg ((vS 0 3) - (1 : Int32))))) 0 1 ((vS 7) (Int32.toNatClampNeg ((vS 0 3) - (1 : Int32))))), ai cI (aS 6) 12 (vS 6), ai cI (aS 7) 12 (vS 7), ai cI (aS 8) 12 (vS 8)] := hD
    refine lv_aload_n hx hb dX2_recall_50 rfl (lv_at hl 0 rfl) ?_
    refine lv_aload_n hx hb dX2_recall_51 rfl (lv_at hl 0 rfl) ?_
    refine va_get (D := G) (ci := 2) (v := .ref (aS 8)) (C := RX2) (T := TX2) (N := 8) hx hb hts fi_X2_recall_X2 hown hEN.1 hP 0 rfl rfl 7 (by decide) (hts (.fieldLink RX2 18 "HourWell$Son" "pastThings" "[I") (List.mem_of_getElem? (i := 6) rfl)) (fun _ h9 => h9) rfl dX2_recall_52 ?_
    refine lv_aload_n hx hb dX2_recall_55 rfl (lv_at hl 0 rfl) ?_
    refine va_get (D := G) (ci := 2) (v := .int ((vS 0 3) - (1 : Int32))) (C := RX2) (T := TX2) (N := 8) hx hb hts fi_X2_recall_X2 hown hEN.1 hP 0 rfl rfl 3 (by decide) (hts (.fieldLink RX2 31 "HourWell$Son" "known" "I") (List.mem_of_getElem? (i := 1) rfl)) (fun _ h9 => h9) rfl dX2_recall_56 ?_
    obtain ⟨hg59, h⟩ := grd_some h
    refine va_iald (f := (vS 8)) hx hb hEN.1 hP 3 0 rfl rfl (inb_in hg59) dX2_recall_59 ?_
    refine va_put (D := G) (ci := 2) (v := .int ((vS 8) (Int32.toNatClampNeg ((vS 0 3) - (1 : Int32))))) (ty := .int) (C := RX2) (T := TX2) (N := 8) hx hb hts fi_X2_recall_X2 tyX2 tyX2_ok nmX2 hown hEN.1 hP hD hS 0 rfl rfl 2 (by decide) (hts (.fieldLink RX2 28 "HourWell$Son" "things" "I") (List.mem_of_getElem? (i := 7) rfl)) (fun _ h9 => h9) rfl (by decide +kernel) rfl rfl (Nat.le_of_ble_eq_true rfl) dX2_recall_60 (fun H locs hP hD hS => ?_)
    have hP : va_P G vwCl [oX2 aS (st (st (st (st vS 0 3 ((vS 0 3) - (1 : Int32))) 0 0 ((vS 6) (Int32.toNatClampNeg ((vS 0 3) - (1 : Int32))))) 0 1 ((vS 7) (Int32.toNatClampNeg ((vS 0 3) - (1 : Int32))))) 0 2 ((vS 8) (Int32.toNatClampNeg ((vS 0 3) - (1 : Int32))))), ai cI (aS 6) 12 (vS 6), ai cI (aS 7) 12 (vS 7), ai cI (aS 8) 12 (vS 8)] H := hP
    have hD : va_D A [oX2 aS (st (st (st (st vS 0 3 ((vS 0 3) - (1 : Int32))) 0 0 ((vS 6) (Int32.toNatClampNeg ((vS 0 3) - (1 : Int32))))) 0 1 ((vS 7) (Int32.toNatClampNeg ((vS 0 3) - (1 : Int32))))) 0 2 ((vS 8) (Int32.toNatClampNeg ((vS 0 3) - (1 : Int32))))), ai cI (aS 6) 12 (vS 6), ai cI (aS 7) 12 (vS 7), ai cI (aS 8) 12 (vS 8)] := hD
    have hres := Option.some.inj h
    subst hres
    exact hRet 63 _ _ _ hP hD hS dX2_recall_63
  · have h := (if_pos c10).symm.trans h
    have hres := Option.some.inj h
    subst hres
    exact hRet 13 _ _ _ hP hD hS dX2_recall_13
