abbrev rm_X3_forgetWay : Room := { frames := 0, cells := 0, slots := 0, locals := 0 }
theorem fi_X3_forgetWay_X3 : ∀ w ∈ wsX30, w ∈ wsX3_forgetWay := fun _ h => List.mem_cons_of_mem _ (List.mem_append_right _ h)
theorem hdV_X3_forgetWay : yX3_forgetWay.cls = RX3 ∧ yX3_forgetWay.cls ≠ "java/lang/invoke/MethodHandle" ∧ yX3_forgetWay.cls ≠ "java/lang/invoke/VarHandle" ∧ (parseMethodDescriptor yX3_forgetWay.desc).map (fun d => d.parameters.length) = some 0 := by decide +kernel
set_option maxRecDepth 100000 in
set_option maxHeartbeats 4000000 in
theorem c_X3_forgetWay (l : Launch) (G : va_G) (cI cZ : ClassId) (aY : Nat → Nat) (aW : Nat → Nat) (aS : Nat → Nat) (vY : Ob)  (res : Ob) (h : m_X3_forgetWay vY  = some res) : Ct l yX3_forgetWay wsX3_forgetWay rm_X3_forgetWay G cI cZ [.ref (aY 0)] [oX3 aY aW aS vY, ai cI (aY 3) 427 (vY 3), ai cI (aY 4) 7 (vY 4), ai cI (aY 5) 125 (vY 5)] none [oX3 aY aW aS res, ai cI (aY 3) 427 (res 3), ai cI (aY 4) 7 (res 4), ai cI (aY 5) 125 (res 5)] := by
  refine Ct.of_v (maxL := 1) (by decide) rfl (Nat.le_of_ble_eq_true rfl) ?_
  intro p e s m below meth c args hx hb hml hown hts A hA hEN hP hD hS Q hRet ls hl
  have hown : s.vm.findClass RX3 = some m.cls := hown
  have hl : lv_has ls 1 [(0, .ref (aY 0))] := hl
  unfold m_X3_forgetWay at h
  refine lv_aload_n hx hb dX3_forgetWay_0 rfl (lv_at hl 0 rfl) ?_
  refine lv_bipush (v := (-9 : Int32)) hx hb dX3_forgetWay_1 k_bipush_n9 ?_
  refine va_put (D := G) (ci := 3) (v := .int (-9 : Int32)) (ty := .int) (C := RX3) (T := TX3) (N := 14) hx hb hts fi_X3_forgetWay_X3 tyX3 tyX3_ok nmX3 hown hEN.1 hP hD hS 0 rfl rfl 7 (by decide) (hts (.fieldLink RX3 29 "HourWell$Ways" "wayThing" "I") (List.mem_of_getElem? (i := 1) rfl)) (fun _ h9 => h9) rfl (by decide +kernel) rfl rfl (Nat.le_of_ble_eq_true rfl) dX3_forgetWay_3 (fun H locs hP hD hS => ?_)
  have hP : va_P G vwCl [oX3 aY aW aS (st vY 0 7 (-9 : Int32)), ai cI (aY 3) 427 (vY 3), ai cI (aY 4) 7 (vY 4), ai cI (aY 5) 125 (vY 5)] H := hP
  have hD : va_D A [oX3 aY aW aS (st vY 0 7 (-9 : Int32)), ai cI (aY 3) 427 (vY 3), ai cI (aY 4) 7 (vY 4), ai cI (aY 5) 125 (vY 5)] := hD
  have hres := Option.some.inj h
  subst hres
  exact hRet 6 _ _ _ hP hD hS dX3_forgetWay_6
abbrev rm_X3_isWayKnown : Room := { frames := 0, cells := 0, slots := 0, locals := 0 }
theorem fi_X3_isWayKnown_X3 : ∀ w ∈ wsX30, w ∈ wsX3_isWayKnown := fun _ h => List.mem_cons_of_mem _ (List.mem_append_left _ (List.mem_append_right _ h))
theorem fi_X3_isWayKnown_X2 : ∀ w ∈ wsX20, w ∈ wsX3_isWayKnown := fun _ h => List.mem_cons_of_mem _ (List.mem_append_right _ h)
theorem hdV_X3_isWayKnown : yX3_isWayKnown.cls = RX3 ∧ yX3_isWayKnown.cls ≠ "java/lang/invoke/MethodHandle" ∧ yX3_isWayKnown.cls ≠ "java/lang/invoke/VarHandle" ∧ (parseMethodDescriptor yX3_isWayKnown.desc).map (fun d => d.parameters.length) = some 1 := by decide +kernel
set_option maxRecDepth 100000 in
set_option maxHeartbeats 4000000 in
theorem c_X3_isWayKnown (l : Launch) (G : va_G) (cI cZ : ClassId) (aY : Nat → Nat) (aW : Nat → Nat) (aS : Nat → Nat) (vY : Ob) (vS : Ob) (x1 : Int32) (res : Int32) (h : m_X3_isWayKnown vY vS x1 = some res) : Ct l yX3_isWayKnown wsX3_isWayKnown rm_X3_isWayKnown G cI cZ [.ref (aY 0), .int x1] [oX3 aY aW aS vY, oX2 aS vS] (some (.int res)) [oX3 aY aW aS vY, oX2 aS vS] := by
  refine Ct.of_z (maxL := 2) (by decide) rfl (Nat.le_of_ble_eq_true rfl) ?_
  intro p e s m below meth c args hx hb hml hown hts A hA hEN hP hD hS Q hRet ls hl
  have hown : s.vm.findClass RX3 = some m.cls := hown
  have hl : lv_has ls 2 [(0, .ref (aY 0)), (1, .int x1)] := hl
  unfold m_X3_isWayKnown at h
  refine lv_iload_n hx hb dX3_isWayKnown_0 rfl (lv_at hl 1 rfl) ?_
  refine lv_aload_n hx hb dX3_isWayKnown_1 rfl (lv_at hl 0 rfl) ?_
  refine va_get (D := G) (ci := 3) (v := .int (vY 0 7)) (C := RX3) (T := TX3) (N := 14) hx hb hts fi_X3_isWayKnown_X3 hown hEN.1 hP 0 rfl rfl 7 (by decide) (hts (.fieldLink RX3 29 "HourWell$Ways" "wayThing" "I") (List.mem_of_getElem? (i := 1) rfl)) (fun _ h9 => h9) rfl dX3_isWayKnown_2 ?_
  refine lv_icmp_ne (tgt := 54) hx hb dX3_isWayKnown_5 (by decide) (fun c5 => ?_) (fun c5 => ?_)
  · have h := (if_neg c5).symm.trans h
    refine lv_iconst (v := (0 : Int32)) hx hb dX3_isWayKnown_54 k_iconst_0 ?_
    have hres := Option.some.inj h
    subst hres
    exact hRet 55 nz0 _ _ _ hP hD hS dX3_isWayKnown_55
  · have h := (if_pos c5).symm.trans h
    refine lv_aload_n hx hb dX3_isWayKnown_8 rfl (lv_at hl 0 rfl) ?_
    refine va_get (D := G) (ci := 3) (v := .int (vY 0 8)) (C := RX3) (T := TX3) (N := 14) hx hb hts fi_X3_isWayKnown_X3 hown hEN.1 hP 0 rfl rfl 8 (by decide) (hts (.fieldLink RX3 42 "HourWell$Ways" "fromPlace" "I") (List.mem_of_getElem? (i := 2) rfl)) (fun _ h9 => h9) rfl dX3_isWayKnown_9 ?_
    refine lv_aload_n hx hb dX3_isWayKnown_12 rfl (lv_at hl 0 rfl) ?_
    refine va_get (D := G) (ci := 3) (v := .ref (aS 0)) (C := RX3) (T := TX3) (N := 14) hx hb hts fi_X3_isWayKnown_X3 hown hEN.1 hP 0 rfl rfl 1 (by decide) (hts (.fieldLink RX3 25 "HourWell$Ways" "son" "LHourWell$Son;") (List.mem_of_getElem? (i := 3) rfl)) (fun _ h9 => h9) rfl dX3_isWayKnown_13 ?_
    refine va_get (D := G) (ci := 2) (v := .int (vS 0 0)) (C := RX2) (T := TX2) (N := 8) hx hb hts fi_X3_isWayKnown_X2 hown hEN.1 hP 1 rfl rfl 0 (by decide) (hts (.fieldLink RX3 37 "HourWell$Son" "place" "I") (List.mem_of_getElem? (i := 4) rfl)) (fun _ h9 => h9) rfl dX3_isWayKnown_16 ?_
    refine lv_icmp_ne (tgt := 54) hx hb dX3_isWayKnown_19 (by decide) (fun c19 => ?_) (fun c19 => ?_)
    · have h := (if_neg c19).symm.trans h
      refine lv_iconst (v := (0 : Int32)) hx hb dX3_isWayKnown_54 k_iconst_0 ?_
      have hres := Option.some.inj h
      subst hres
      exact hRet 55 nz0 _ _ _ hP hD hS dX3_isWayKnown_55
    · have h := (if_pos c19).symm.trans h
      refine lv_aload_n hx hb dX3_isWayKnown_22 rfl (lv_at hl 0 rfl) ?_
      refine va_get (D := G) (ci := 3) (v := .int (vY 0 9)) (C := RX3) (T := TX3) (N := 14) hx hb hts fi_X3_isWayKnown_X3 hown hEN.1 hP 0 rfl rfl 9 (by decide) (hts (.fieldLink RX3 48 "HourWell$Ways" "fromHour" "I") (List.mem_of_getElem? (i := 5) rfl)) (fun _ h9 => h9) rfl dX3_isWayKnown_23 ?_
      refine lv_aload_n hx hb dX3_isWayKnown_26 rfl (lv_at hl 0 rfl) ?_
      refine va_get (D := G) (ci := 3) (v := .ref (aS 0)) (C := RX3) (T := TX3) (N := 14) hx hb hts fi_X3_isWayKnown_X3 hown hEN.1 hP 0 rfl rfl 1 (by decide) (hts (.fieldLink RX3 25 "HourWell$Ways" "son" "LHourWell$Son;") (List.mem_of_getElem? (i := 3) rfl)) (fun _ h9 => h9) rfl dX3_isWayKnown_27 ?_
      refine va_get (D := G) (ci := 2) (v := .int (vS 0 1)) (C := RX2) (T := TX2) (N := 8) hx hb hts fi_X3_isWayKnown_X2 hown hEN.1 hP 1 rfl rfl 1 (by decide) (hts (.fieldLink RX3 45 "HourWell$Son" "hour" "I") (List.mem_of_getElem? (i := 6) rfl)) (fun _ h9 => h9) rfl dX3_isWayKnown_30 ?_
      refine lv_icmp_ne (tgt := 54) hx hb dX3_isWayKnown_33 (by decide) (fun c33 => ?_) (fun c33 => ?_)
      · have h := (if_neg c33).symm.trans h
        refine lv_iconst (v := (0 : Int32)) hx hb dX3_isWayKnown_54 k_iconst_0 ?_
        have hres := Option.some.inj h
        subst hres
        exact hRet 55 nz0 _ _ _ hP hD hS dX3_isWayKnown_55
      · have h := (if_pos c33).symm.trans h
        refine lv_aload_n hx hb dX3_isWayKnown_36 rfl (lv_at hl 0 rfl) ?_
        refine va_get (D := G) (ci := 3) (v := .int (vY 0 10)) (C := RX3) (T := TX3) (N := 14) hx hb hts fi_X3_isWayKnown_X3 hown hEN.1 hP 0 rfl rfl 10 (by decide) (hts (.fieldLink RX3 54 "HourWell$Ways" "fromThings" "I") (List.mem_of_getElem? (i := 7) rfl)) (fun _ h9 => h9) rfl dX3_isWayKnown_37 ?_
        refine lv_aload_n hx hb dX3_isWayKnown_40 rfl (lv_at hl 0 rfl) ?_
        refine va_get (D := G) (ci := 3) (v := .ref (aS 0)) (C := RX3) (T := TX3) (N := 14) hx hb hts fi_X3_isWayKnown_X3 hown hEN.1 hP 0 rfl rfl 1 (by decide) (hts (.fieldLink RX3 25 "HourWell$Ways" "son" "LHourWell$Son;") (List.mem_of_getElem? (i := 3) rfl)) (fun _ h9 => h9) rfl dX3_isWayKnown_41 ?_
        refine va_get (D := G) (ci := 2) (v := .int (vS 0 2)) (C := RX2) (T := TX2) (N := 8) hx hb hts fi_X3_isWayKnown_X2 hown hEN.1 hP 1 rfl rfl 2 (by decide) (hts (.fieldLink RX3 51 "HourWell$Son" "things" "I") (List.mem_of_getElem? (i := 8) rfl)) (fun _ h9 => h9) rfl dX3_isWayKnown_44 ?_
        refine lv_icmp_ne (tgt := 54) hx hb dX3_isWayKnown_47 (by decide) (fun c47 => ?_) (fun c47 => ?_)
        · have h := (if_neg c47).symm.trans h
          refine lv_iconst (v := (0 : Int32)) hx hb dX3_isWayKnown_54 k_iconst_0 ?_
          have hres := Option.some.inj h
          subst hres
          exact hRet 55 nz0 _ _ _ hP hD hS dX3_isWayKnown_55
        · have h := (if_pos c47).symm.trans h
          refine lv_iconst (v := (1 : Int32)) hx hb dX3_isWayKnown_50 k_iconst_1 ?_
          refine lv_goto (tgt := 55) hx hb dX3_isWayKnown_51 (by decide) ?_
          have hres := Option.some.inj h
          subst hres
          exact hRet 55 nz1 _ _ _ hP hD hS dX3_isWayKnown_55
abbrev rm_X3_isCell : Room := { frames := 0, cells := 0, slots := 0, locals := 0 }
theorem hdS_X3_isCell : yX3_isCell.cls ≠ "java/lang/invoke/MethodHandle" ∧ yX3_isCell.cls ≠ "java/lang/invoke/VarHandle" ∧ (parseMethodDescriptor yX3_isCell.desc).map (fun d => d.parameters.length) = some 2 := by decide +kernel
set_option maxRecDepth 100000 in
set_option maxHeartbeats 4000000 in
theorem c_X3_isCell (l : Launch) (G : va_G) (cI cZ : ClassId)   (x0 : Int32) (x1 : Int32) (res : Int32) (h : m_X3_isCell  x0 x1 = some res) : Ct l yX3_isCell wsX3_isCell rm_X3_isCell G cI cZ [.int x0, .int x1] [] (some (.int res)) [] := by
  refine Ct.of_z (maxL := 2) (by decide) rfl (Nat.le_of_ble_eq_true rfl) ?_
  intro p e s m below meth c args hx hb hml hown hts A hA hEN hP hD hS Q hRet ls hl
  have hown : s.vm.findClass RX3 = some m.cls := hown
  have hl : lv_has ls 2 [(0, .int x0), (1, .int x1)] := hl
  unfold m_X3_isCell at h
  refine lv_iload_n hx hb dX3_isCell_0 rfl (lv_at hl 0 rfl) ?_
  refine lv_if_lt (tgt := 24) hx hb dX3_isCell_1 (by decide) (fun c1 => ?_) (fun c1 => ?_)
  · have h := (if_pos c1).symm.trans h
    refine lv_iconst (v := (0 : Int32)) hx hb dX3_isCell_24 k_iconst_0 ?_
    have hres := Option.some.inj h
    subst hres
    exact hRet 25 nz0 _ _ _ hP hD hS dX3_isCell_25
  · have h := (if_neg c1).symm.trans h
    refine lv_iload_n hx hb dX3_isCell_4 rfl (lv_at hl 0 rfl) ?_
    refine lv_bipush (v := (60 : Int32)) hx hb dX3_isCell_5 k_bipush_60 ?_
    refine lv_icmp_gt (tgt := 24) hx hb dX3_isCell_7 (by decide) (fun c7 => ?_) (fun c7 => ?_)
    · have h := (if_pos c7).symm.trans h
      refine lv_iconst (v := (0 : Int32)) hx hb dX3_isCell_24 k_iconst_0 ?_
      have hres := Option.some.inj h
      subst hres
      exact hRet 25 nz0 _ _ _ hP hD hS dX3_isCell_25
    · have h := (if_neg c7).symm.trans h
      refine lv_iload_n hx hb dX3_isCell_10 rfl (lv_at hl 1 rfl) ?_
      refine lv_if_lt (tgt := 24) hx hb dX3_isCell_11 (by decide) (fun c11 => ?_) (fun c11 => ?_)
      · have h := (if_pos c11).symm.trans h
        refine lv_iconst (v := (0 : Int32)) hx hb dX3_isCell_24 k_iconst_0 ?_
        have hres := Option.some.inj h
        subst hres
        exact hRet 25 nz0 _ _ _ hP hD hS dX3_isCell_25
      · have h := (if_neg c11).symm.trans h
        refine lv_iload_n hx hb dX3_isCell_14 rfl (lv_at hl 1 rfl) ?_
        refine lv_bipush (v := (7 : Int32)) hx hb dX3_isCell_15 k_bipush_7 ?_
        refine lv_icmp_ge (tgt := 24) hx hb dX3_isCell_17 (by decide) (fun c17 => ?_) (fun c17 => ?_)
        · have h := (if_pos c17).symm.trans h
          refine lv_iconst (v := (0 : Int32)) hx hb dX3_isCell_24 k_iconst_0 ?_
          have hres := Option.some.inj h
          subst hres
          exact hRet 25 nz0 _ _ _ hP hD hS dX3_isCell_25
        · have h := (if_neg c17).symm.trans h
          refine lv_iconst (v := (1 : Int32)) hx hb dX3_isCell_20 k_iconst_1 ?_
          refine lv_goto (tgt := 25) hx hb dX3_isCell_21 (by decide) ?_
          have hres := Option.some.inj h
          subst hres
          exact hRet 25 nz1 _ _ _ hP hD hS dX3_isCell_25
abbrev rm_X3_addSets : Room := { frames := 1, cells := 0, slots := 0, locals := 21 }
theorem fi_X3_addSets_X3 : ∀ w ∈ wsX30, w ∈ wsX3_addSets := fun _ h => List.mem_cons_of_mem _ (List.mem_append_right _ h)
theorem hdV_X3_addSets : yX3_addSets.cls = RX3 ∧ yX3_addSets.cls ≠ "java/lang/invoke/MethodHandle" ∧ yX3_addSets.cls ≠ "java/lang/invoke/VarHandle" ∧ (parseMethodDescriptor yX3_addSets.desc).map (fun d => d.parameters.length) = some 3 := by decide +kernel
set_option maxRecDepth 100000 in
set_option maxHeartbeats 4000000 in
theorem c_X3_addSets (l : Launch) (G : va_G) (cI cZ : ClassId) (aY : Nat → Nat) (aW : Nat → Nat) (aS : Nat → Nat) (vY : Ob) (x1 : Int32) (x2 : Int32) (x3 : Int32) (res : Ob) (h : m_X3_addSets vY x1 x2 x3 = some res) : Ct l yX3_addSets wsX3_addSets rm_X3_addSets G cI cZ [.ref (aY 0), .int x1, .int x2, .int x3] [oX3 aY aW aS vY, ai cI (aY 3) 427 (vY 3), ai cI (aY 4) 7 (vY 4), ai cI (aY 5) 125 (vY 5)] none [oX3 aY aW aS res, ai cI (aY 3) 427 (res 3), ai cI (aY 4) 7 (res 4), ai cI (aY 5) 125 (res 5)] := by
  refine Ct.of_v (maxL := 4) (by decide) rfl (Nat.le_of_ble_eq_true rfl) ?_
  intro p e s m below meth c args hx hb hml hown hts A hA hEN hP hD hS Q hRet ls hl
  have hown : s.vm.findClass RX3 = some m.cls := hown
  have hl : lv_has ls 4 [(0, .ref (aY 0)), (1, .int x1), (2, .int x2), (3, .int x3)] := hl
  unfold m_X3_addSets at h
  refine lv_iload_n hx hb dX3_addSets_0 rfl (lv_at hl 1 rfl) ?_
  refine lv_iload_n hx hb dX3_addSets_1 rfl (lv_at hl 2 rfl) ?_
  obtain ⟨o2, ho2, h⟩ := bnd_some h
  refine call_S0 (As := [.int x1, .int x2]) (rest := []) ⟨hx, hb, hml, hown, hts⟩ (c_X3_isCell l G cI cZ  x1 x2 o2 ho2) (va_cwS 2 hts gX3_addSets_X3_isCell rfl rfl rfl hdS_X3_isCell ⟨Nat.le_of_ble_eq_true rfl, Nat.le_of_ble_eq_true rfl⟩) hEN hA hP hD hS [] rfl (by decide) rfl hl.1 rfl (Nat.le_of_ble_eq_true rfl) dX3_addSets_2 ⟨Nat.le_of_ble_eq_true rfl, Nat.le_of_ble_eq_true rfl⟩ (fun H locs hP hS => ?_)
  refine lv_if_eq (tgt := 23) hx hb dX3_addSets_5 (by decide) (fun c5 => ?_) (fun c5 => ?_)
  · have h := (if_pos c5).symm.trans h
    have hres := Option.some.inj h
    subst hres
    exact hRet 23 _ _ _ hP hD hS dX3_addSets_23
  · have h := (if_neg c5).symm.trans h
    refine lv_aload_n hx hb dX3_addSets_8 rfl (lv_at hl 0 rfl) ?_
    refine va_get (D := G) (ci := 3) (v := .ref (aY 3)) (C := RX3) (T := TX3) (N := 14) hx hb hts fi_X3_addSets_X3 hown hEN.1 hP 0 rfl rfl 2 (by decide) (hts (.fieldLink RX3 9 "HourWell$Ways" "table" "[I") (List.mem_of_getElem? (i := 1) rfl)) (fun _ h9 => h9) rfl dX3_addSets_9 ?_
    refine lv_iload_n hx hb dX3_addSets_12 rfl (lv_at hl 1 rfl) ?_
    refine lv_bipush (v := (7 : Int32)) hx hb dX3_addSets_13 k_bipush_7 ?_
    refine lv_imul hx hb dX3_addSets_15 ?_
    refine lv_iload_n hx hb dX3_addSets_16 rfl (lv_at hl 2 rfl) ?_
    refine lv_iadd hx hb dX3_addSets_17 ?_
    refine lv_dup2_11 hx hb dX3_addSets_18 rfl rfl ?_
    obtain ⟨hg19, h⟩ := grd_some h
    refine va_iald (f := (vY 3)) hx hb hEN.1 hP 1 0 rfl rfl (inb_in hg19) dX3_addSets_19 ?_
    refine lv_iload_n hx hb dX3_addSets_20 rfl (lv_at hl 3 rfl) ?_
    refine lv_ior hx hb dX3_addSets_21 ?_
    obtain ⟨hg22, h⟩ := grd_some h
    refine va_iast (f := (vY 3)) hx hb hEN.1 hP hD hS 1 0 rfl rfl (inb_in hg22) dX3_addSets_22 (fun H locs hP hD hS => ?_)
    have hP : va_P G vwCl [oX3 aY aW aS vY, ai cI (aY 3) 427 (upd (vY 3) (Int32.toNatClampNeg ((x1 * (7 : Int32)) + x2)) (((vY 3) (Int32.toNatClampNeg ((x1 * (7 : Int32)) + x2))) ||| x3)), ai cI (aY 4) 7 (vY 4), ai cI (aY 5) 125 (vY 5)] H := hP
    have hD : va_D A [oX3 aY aW aS vY, ai cI (aY 3) 427 (upd (vY 3) (Int32.toNatClampNeg ((x1 * (7 : Int32)) + x2)) (((vY 3) (Int32.toNatClampNeg ((x1 * (7 : Int32)) + x2))) ||| x3)), ai cI (aY 4) 7 (vY 4), ai cI (aY 5) 125 (vY 5)] := hD
    have hres := Option.some.inj h
    subst hres
    exact hRet 23 _ _ _ hP hD hS dX3_addSets_23
abbrev rm_X3_setsAt : Room := { frames := 1, cells := 0, slots := 0, locals := 21 }
theorem fi_X3_setsAt_X3 : ∀ w ∈ wsX30, w ∈ wsX3_setsAt := fun _ h => List.mem_cons_of_mem _ (List.mem_append_right _ h)
theorem hdV_X3_setsAt : yX3_setsAt.cls = RX3 ∧ yX3_setsAt.cls ≠ "java/lang/invoke/MethodHandle" ∧ yX3_setsAt.cls ≠ "java/lang/invoke/VarHandle" ∧ (parseMethodDescriptor yX3_setsAt.desc).map (fun d => d.parameters.length) = some 2 := by decide +kernel
set_option maxRecDepth 100000 in
set_option maxHeartbeats 4000000 in
theorem c_X3_setsAt (l : Launch) (G : va_G) (cI cZ : ClassId) (aY : Nat → Nat) (aW : Nat → Nat) (aS : Nat → Nat) (vY : Ob) (x1 : Int32) (x2 : Int32) (res : Int32) (h : m_X3_setsAt vY x1 x2 = some res) : Ct l yX3_setsAt wsX3_setsAt rm_X3_setsAt G cI cZ [.ref (aY 0), .int x1, .int x2] [oX3 aY aW aS vY, ai cI (aY 3) 427 (vY 3)] (some (.int res)) [oX3 aY aW aS vY, ai cI (aY 3) 427 (vY 3)] := by
  refine Ct.of_i (maxL := 3) (by decide) rfl (Nat.le_of_ble_eq_true rfl) ?_
  intro p e s m below meth c args hx hb hml hown hts A hA hEN hP hD hS Q hRet ls hl
  have hown : s.vm.findClass RX3 = some m.cls := hown
  have hl : lv_has ls 3 [(0, .ref (aY 0)), (1, .int x1), (2, .int x2)] := hl
  unfold m_X3_setsAt at h
  refine lv_iload_n hx hb dX3_setsAt_0 rfl (lv_at hl 1 rfl) ?_
  refine lv_iload_n hx hb dX3_setsAt_1 rfl (lv_at hl 2 rfl) ?_
  obtain ⟨o2, ho2, h⟩ := bnd_some h
  refine call_S0 (As := [.int x1, .int x2]) (rest := []) ⟨hx, hb, hml, hown, hts⟩ (c_X3_isCell l G cI cZ  x1 x2 o2 ho2) (va_cwS 2 hts gX3_setsAt_X3_isCell rfl rfl rfl hdS_X3_isCell ⟨Nat.le_of_ble_eq_true rfl, Nat.le_of_ble_eq_true rfl⟩) hEN hA hP hD hS [] rfl (by decide) rfl hl.1 rfl (Nat.le_of_ble_eq_true rfl) dX3_setsAt_2 ⟨Nat.le_of_ble_eq_true rfl, Nat.le_of_ble_eq_true rfl⟩ (fun H locs hP hS => ?_)
  refine lv_if_eq (tgt := 22) hx hb dX3_setsAt_5 (by decide) (fun c5 => ?_) (fun c5 => ?_)
  · have h := (if_pos c5).symm.trans h
    refine lv_iconst (v := (0 : Int32)) hx hb dX3_setsAt_22 k_iconst_0 ?_
    have hres := Option.some.inj h
    subst hres
    exact hRet 23 _ _ _ hP hD hS dX3_setsAt_23
  · have h := (if_neg c5).symm.trans h
    refine lv_aload_n hx hb dX3_setsAt_8 rfl (lv_at hl 0 rfl) ?_
    refine va_get (D := G) (ci := 3) (v := .ref (aY 3)) (C := RX3) (T := TX3) (N := 14) hx hb hts fi_X3_setsAt_X3 hown hEN.1 hP 0 rfl rfl 2 (by decide) (hts (.fieldLink RX3 9 "HourWell$Ways" "table" "[I") (List.mem_of_getElem? (i := 1) rfl)) (fun _ h9 => h9) rfl dX3_setsAt_9 ?_
    refine lv_iload_n hx hb dX3_setsAt_12 rfl (lv_at hl 1 rfl) ?_
    refine lv_bipush (v := (7 : Int32)) hx hb dX3_setsAt_13 k_bipush_7 ?_
    refine lv_imul hx hb dX3_setsAt_15 ?_
    refine lv_iload_n hx hb dX3_setsAt_16 rfl (lv_at hl 2 rfl) ?_
    refine lv_iadd hx hb dX3_setsAt_17 ?_
    obtain ⟨hg18, h⟩ := grd_some h
    refine va_iald (f := (vY 3)) hx hb hEN.1 hP 1 0 rfl rfl (inb_in hg18) dX3_setsAt_18 ?_
    refine lv_goto (tgt := 23) hx hb dX3_setsAt_19 (by decide) ?_
    have hres := Option.some.inj h
    subst hres
    exact hRet 23 _ _ _ hP hD hS dX3_setsAt_23
abbrev rm_X3_setsHaving : Room := { frames := 1, cells := 0, slots := 0, locals := 20 }
theorem hdS_X3_setsHaving : yX3_setsHaving.cls ≠ "java/lang/invoke/MethodHandle" ∧ yX3_setsHaving.cls ≠ "java/lang/invoke/VarHandle" ∧ (parseMethodDescriptor yX3_setsHaving.desc).map (fun d => d.parameters.length) = some 1 := by decide +kernel
set_option maxRecDepth 100000 in
set_option maxHeartbeats 4000000 in
theorem c_X3_setsHaving (l : Launch) (G : va_G) (cI cZ : ClassId)   (x0 : Int32) (res : Int32) (h : m_X3_setsHaving  x0 = some res) : Ct l yX3_setsHaving wsX3_setsHaving rm_X3_setsHaving G cI cZ [.int x0] [] (some (.int res)) [] := by
  refine Ct.of_i (maxL := 1) (by decide) rfl (Nat.le_of_ble_eq_true rfl) ?_
  intro p e s m below meth c args hx hb hml hown hts A hA hEN hP hD hS Q hRet ls hl
  have hown : s.vm.findClass RX3 = some m.cls := hown
  have hl : lv_has ls 1 [(0, .int x0)] := hl
  obtain ⟨aH, hZ, hX⟩ := hEN.2.2
  unfold m_X3_setsHaving at h
  refine lv_iload_n hx hb dX3_setsHaving_0 rfl (lv_at hl 0 rfl) ?_
  obtain ⟨o1, ho1, h⟩ := bnd_some h
  refine call_SN0 (As := [.int x0]) (rest := []) ⟨hx, hb, hml, hown, hts⟩ (c_X5_isThing l G cI cZ  x0 o1 ho1) ⟨va_cnB 1 hts gX3_setsHaving_X5_isThing_n208 rfl rfl rfl (hEN.2.1 _ (List.mem_of_getElem? (i := 7) rfl)) (hts (.initialized RX5) (List.mem_of_getElem? (i := 3) rfl)) hdS_X5_isThing ⟨Nat.le_of_ble_eq_true rfl, Nat.le_of_ble_eq_true rfl⟩, hts (.static yX5_isThing) (List.mem_of_getElem? (i := 2) rfl), trivial⟩ hEN hA hP hD hS [] rfl (by decide) rfl hl.1 rfl (Nat.le_of_ble_eq_true rfl) dX3_setsHaving_1 ⟨Nat.le_of_ble_eq_true rfl, Nat.le_of_ble_eq_true rfl⟩ (fun H locs hP hS => ?_)
  refine lv_if_eq (tgt := 15) hx hb dX3_setsHaving_4 (by decide) (fun c4 => ?_) (fun c4 => ?_)
  · have h := (if_pos c4).symm.trans h
    refine lv_iconst (v := (-1 : Int32)) hx hb dX3_setsHaving_15 k_iconst_n1 ?_
    have hres := Option.some.inj h
    subst hres
    exact hRet 16 _ _ _ hP hD hS dX3_setsHaving_16
  · have h := (if_neg c4).symm.trans h
    refine va_gets hx hb hZ hS hown (hts (.fieldLink RX3 211 "HourWell$Ways" "HAVING" "[I") (List.mem_of_getElem? (i := 1) rfl)) (fun _ h9 => h9) dX3_setsHaving_7 ?_
    refine lv_iload_n hx hb dX3_setsHaving_10 rfl (lv_at hl 0 rfl) ?_
    obtain ⟨hg11, h⟩ := grd_some h
    refine va_ti (v := .int (fHav (Int32.toNatClampNeg x0))) hx hb hX hS (inb_in hg11) rfl dX3_setsHaving_11 ?_
    refine lv_goto (tgt := 16) hx hb dX3_setsHaving_12 (by decide) ?_
    have hres := Option.some.inj h
    subst hres
    exact hRet 16 _ _ _ hP hD hS dX3_setsHaving_16
abbrev rm_X3_isAskMore : Room := { frames := 2, cells := 0, slots := 0, locals := 44 }
theorem fi_X3_isAskMore_X3 : ∀ w ∈ wsX30, w ∈ wsX3_isAskMore := fun _ h => List.mem_cons_of_mem _ (List.mem_append_left _ (List.mem_append_right _ h))
theorem fi_X3_isAskMore_X4 : ∀ w ∈ wsX40, w ∈ wsX3_isAskMore := fun _ h => List.mem_cons_of_mem _ (List.mem_append_right _ h)
theorem hdV_X3_isAskMore : yX3_isAskMore.cls = RX3 ∧ yX3_isAskMore.cls ≠ "java/lang/invoke/MethodHandle" ∧ yX3_isAskMore.cls ≠ "java/lang/invoke/VarHandle" ∧ (parseMethodDescriptor yX3_isAskMore.desc).map (fun d => d.parameters.length) = some 3 := by decide +kernel
set_option maxRecDepth 100000 in
set_option maxHeartbeats 4000000 in
theorem c_X3_isAskMore (l : Launch) (G : va_G) (cI cZ : ClassId) (aY : Nat → Nat) (aW : Nat → Nat) (aS : Nat → Nat) (vY : Ob) (vW : Ob) (x1 : Int32) (x2 : Int32) (x3 : Int32) (res : Int32 × Ob) (h : m_X3_isAskMore vY vW x1 x2 x3 = some res) : Ct l yX3_isAskMore wsX3_isAskMore rm_X3_isAskMore G cI cZ [.ref (aY 0), .int x1, .int x2, .int x3] [oX3 aY aW aS vY, ai cI (aY 3) 427 (vY 3), ai cI (aY 4) 7 (vY 4), ai cI (aY 5) 125 (vY 5), oX4 aW vW, ai cI (aW 11) 6 (vW 11), ai cI (aW 12) 6 (vW 12), ai cI (aW 13) 6 (vW 13)] (some (.int res.1)) [oX3 aY aW aS res.2, ai cI (aY 3) 427 (res.2 3), ai cI (aY 4) 7 (res.2 4), ai cI (aY 5) 125 (res.2 5), oX4 aW vW, ai cI (aW 11) 6 (vW 11), ai cI (aW 12) 6 (vW 12), ai cI (aW 13) 6 (vW 13)] := by
  refine Ct.of_z (maxL := 8) (by decide) rfl (Nat.le_of_ble_eq_true rfl) ?_
  intro p e s m below meth c args hx hb hml hown hts A hA hEN hP hD hS Q hRet ls hl
  have hown : s.vm.findClass RX3 = some m.cls := hown
  have hl : lv_has ls 8 [(0, .ref (aY 0)), (1, .int x1), (2, .int x2), (3, .int x3)] := hl
  have j81 : ∀ (vY : Ob) (x1 : Int32) (x4 : Int32) (x6 : Int32) (s1 : Int32) (s2 : Int32) (s3 : Int32), m_X3_isAskMore_j81 vW vY x1 x4 x6 s1 s2 s3 = some res → ∀ (H : Heap) (locs : List Loc) (ls : Array Slot), va_P G vwCl [oX3 aY aW aS vY, ai cI (aY 3) 427 (vY 3), ai cI (aY 4) 7 (vY 4), ai cI (aY 5) 125 (vY 5), oX4 aW vW, ai cI (aW 11) 6 (vW 11), ai cI (aW 12) 6 (vW 12), ai cI (aW 13) 6 (vW 13)] H → va_D A [oX3 aY aW aS vY, ai cI (aY 3) 427 (vY 3), ai cI (aY 4) 7 (vY 4), ai cI (aY 5) 125 (vY 5), oX4 aW vW, ai cI (aW 11) 6 (vW 11), ai cI (aW 12) 6 (vW 12), ai cI (aW 13) 6 (vW 13)] → va_S A s.heap H locs → lv_has ls 8 [(0, .ref (aY 0)), (1, .int x1), (4, .int x4), (6, .int x6)] → W p l e rm_X3_isAskMore s m args below meth c H locs 0 0 Q (F0 m 81 ls [.int s3, .int s2, .int s1, .ref (aY 0)]) := by
    intro vY x1 x4 x6 s1 s2 s3 h H locs ls hP hD hS hl
    unfold m_X3_isAskMore_j81 at h
    obtain ⟨o81, ho81, h⟩ := bnd_some h
    refine call_VJ (wr := [oX4 aW vW, ai cI (aW 11) 6 (vW 11), ai cI (aW 12) 6 (vW 12), ai cI (aW 13) 6 (vW 13)]) (As := [.int s1, .int s2, .int s3]) (rest := []) ⟨hx, hb, hml, hown, hts⟩ (c_X3_addSets l G cI cZ aY aW aS vY s1 s2 s3 o81 ho81) (cwV 3 hts gX3_isAskMore_X3_addSets rfl rfl rfl hdV_X3_addSets ⟨Nat.le_of_ble_eq_true rfl, Nat.le_of_ble_eq_true rfl⟩) hEN hA hP hD hS [0, 1, 2, 3] [4, 5, 6, 7] rfl (by decide) rfl (by decide) (by decide) 0 rfl rfl rfl hl.1 rfl (Nat.le_of_ble_eq_true rfl) dX3_isAskMore_81 ⟨Nat.le_of_ble_eq_true rfl, Nat.le_of_ble_eq_true rfl⟩ (fun H locs hP hD hS => ?_)
    have hP : va_P G vwCl [oX4 aW vW, ai cI (aW 11) 6 (vW 11), ai cI (aW 12) 6 (vW 12), ai cI (aW 13) 6 (vW 13), oX3 aY aW aS o81, ai cI (aY 3) 427 (o81 3), ai cI (aY 4) 7 (o81 4), ai cI (aY 5) 125 (o81 5)] H := hP
    have hD : va_D A [oX4 aW vW, ai cI (aW 11) 6 (vW 11), ai cI (aW 12) 6 (vW 12), ai cI (aW 13) 6 (vW 13), oX3 aY aW aS o81, ai cI (aY 3) 427 (o81 3), ai cI (aY 4) 7 (o81 4), ai cI (aY 5) 125 (o81 5)] := hD
    refine lv_aload_n hx hb dX3_isAskMore_84 rfl (lv_at hl 0 rfl) ?_
    refine lv_iload_n hx hb dX3_isAskMore_85 rfl (lv_at hl 1 rfl) ?_
    refine lv_iload hx hb dX3_isAskMore_86 (lv_at hl 2 rfl) ?_
    obtain ⟨o88, ho88, h⟩ := bnd_some h
    refine call_V0 (As := [.int x1, .int x4]) (rest := []) ⟨hx, hb, hml, hown, hts⟩ (c_X3_setsAt l G cI cZ aY aW aS o81 x1 x4 o88 ho88) (cwV 2 hts gX3_isAskMore_X3_setsAt rfl rfl rfl hdV_X3_setsAt ⟨Nat.le_of_ble_eq_true rfl, Nat.le_of_ble_eq_true rfl⟩) hEN hA hP hD hS [4, 5] rfl (by decide) 4 rfl rfl rfl hl.1 rfl (Nat.le_of_ble_eq_true rfl) dX3_isAskMore_88 ⟨Nat.le_of_ble_eq_true rfl, Nat.le_of_ble_eq_true rfl⟩ (fun H locs hP hS => ?_)
    refine lv_iload hx hb dX3_isAskMore_91 (lv_at hl 3 rfl) ?_
    refine lv_icmp_eq (tgt := 100) hx hb dX3_isAskMore_93 (by decide) (fun c93 => ?_) (fun c93 => ?_)
    · have h := (if_pos c93).symm.trans h
      refine lv_iconst (v := (0 : Int32)) hx hb dX3_isAskMore_100 k_iconst_0 ?_
      have hres := Option.some.inj h
      subst hres
      exact hRet 101 nz0 _ _ _ (hP.sub [4, 5, 6, 7, 0, 1, 2, 3] rfl) (hD.sub [4, 5, 6, 7, 0, 1, 2, 3] (by decide) rfl) hS dX3_isAskMore_101
    · have h := (if_neg c93).symm.trans h
      refine lv_iconst (v := (1 : Int32)) hx hb dX3_isAskMore_96 k_iconst_1 ?_
      refine lv_goto (tgt := 101) hx hb dX3_isAskMore_97 (by decide) ?_
      have hres := Option.some.inj h
      subst hres
      exact hRet 101 nz1 _ _ _ (hP.sub [4, 5, 6, 7, 0, 1, 2, 3] rfl) (hD.sub [4, 5, 6, 7, 0, 1, 2, 3] (by decide) rfl) hS dX3_isAskMore_101
  unfold m_X3_isAskMore at h
  refine lv_aload_n hx hb dX3_isAskMore_0 rfl (lv_at hl 0 rfl) ?_
  refine va_get (D := G) (ci := 3) (v := .ref (aW 0)) (C := RX3) (T := TX3) (N := 14) hx hb hts fi_X3_isAskMore_X3 hown hEN.1 hP 0 rfl rfl 0 (by decide) (hts (.fieldLink RX3 21 "HourWell$Ways" "world" "LHourWell$World;") (List.mem_of_getElem? (i := 1) rfl)) (fun _ h9 => h9) rfl dX3_isAskMore_1 ?_
  refine lv_iload_n hx hb dX3_isAskMore_4 rfl (lv_at hl 2 rfl) ?_
  obtain ⟨o5, ho5, h⟩ := bnd_some h
  refine call_V0 (As := [.int x2]) (rest := []) ⟨hx, hb, hml, hown, hts⟩ (c_X4_hostPlace l G cI cZ aW vW x2 o5 ho5) (cwV 1 hts gX3_isAskMore_X4_hostPlace rfl rfl rfl hdV_X4_hostPlace ⟨Nat.le_of_ble_eq_true rfl, Nat.le_of_ble_eq_true rfl⟩) hEN hA hP hD hS [4, 5] rfl (by decide) 4 rfl rfl rfl hl.1 rfl (Nat.le_of_ble_eq_true rfl) dX3_isAskMore_5 ⟨Nat.le_of_ble_eq_true rfl, Nat.le_of_ble_eq_true rfl⟩ (fun H locs hP hS => ?_)
  refine lv_istore (lv' := [(4, .int o5), (0, .ref (aY 0)), (1, .int x1), (2, .int x2), (3, .int x3)]) hx hb dX3_isAskMore_8 hl (by decide) rfl (fun ls hl => ?_)
  refine lv_aload_n hx hb dX3_isAskMore_10 rfl (lv_at hl 1 rfl) ?_
  refine va_get (D := G) (ci := 3) (v := .ref (aW 0)) (C := RX3) (T := TX3) (N := 14) hx hb hts fi_X3_isAskMore_X3 hown hEN.1 hP 0 rfl rfl 0 (by decide) (hts (.fieldLink RX3 21 "HourWell$Ways" "world" "LHourWell$World;") (List.mem_of_getElem? (i := 1) rfl)) (fun _ h9 => h9) rfl dX3_isAskMore_11 ?_
  refine lv_iload_n hx hb dX3_isAskMore_14 rfl (lv_at hl 3 rfl) ?_
  obtain ⟨o15, ho15, h⟩ := bnd_some h
  refine call_V0 (As := [.int x2]) (rest := []) ⟨hx, hb, hml, hown, hts⟩ (c_X4_hostGives l G cI cZ aW vW x2 o15 ho15) (cwV 1 hts gX3_isAskMore_X4_hostGives rfl rfl rfl hdV_X4_hostGives ⟨Nat.le_of_ble_eq_true rfl, Nat.le_of_ble_eq_true rfl⟩) hEN hA hP hD hS [4, 6] rfl (by decide) 4 rfl rfl rfl hl.1 rfl (Nat.le_of_ble_eq_true rfl) dX3_isAskMore_15 ⟨Nat.le_of_ble_eq_true rfl, Nat.le_of_ble_eq_true rfl⟩ (fun H locs hP hS => ?_)
  refine lv_istore (lv' := [(5, .int o15), (4, .int o5), (0, .ref (aY 0)), (1, .int x1), (2, .int x2), (3, .int x3)]) hx hb dX3_isAskMore_18 hl (by decide) rfl (fun ls hl => ?_)
  refine lv_aload_n hx hb dX3_isAskMore_20 rfl (lv_at hl 2 rfl) ?_
  refine lv_iload_n hx hb dX3_isAskMore_21 rfl (lv_at hl 3 rfl) ?_
  refine lv_iload hx hb dX3_isAskMore_22 (lv_at hl 1 rfl) ?_
  obtain ⟨o24, ho24, h⟩ := bnd_some h
  refine call_V0 (As := [.int x1, .int o5]) (rest := []) ⟨hx, hb, hml, hown, hts⟩ (c_X3_setsAt l G cI cZ aY aW aS vY x1 o5 o24 ho24) (cwV 2 hts gX3_isAskMore_X3_setsAt rfl rfl rfl hdV_X3_setsAt ⟨Nat.le_of_ble_eq_true rfl, Nat.le_of_ble_eq_true rfl⟩) hEN hA hP hD hS [0, 1] rfl (by decide) 0 rfl rfl rfl hl.1 rfl (Nat.le_of_ble_eq_true rfl) dX3_isAskMore_24 ⟨Nat.le_of_ble_eq_true rfl, Nat.le_of_ble_eq_true rfl⟩ (fun H locs hP hS => ?_)
  refine lv_istore (lv' := [(6, .int o24), (5, .int o15), (4, .int o5), (0, .ref (aY 0)), (1, .int x1), (2, .int x2), (3, .int x3)]) hx hb dX3_isAskMore_27 hl (by decide) rfl (fun ls hl => ?_)
  refine lv_aload_n hx hb dX3_isAskMore_29 rfl (lv_at hl 3 rfl) ?_
  refine va_get (D := G) (ci := 3) (v := .ref (aW 0)) (C := RX3) (T := TX3) (N := 14) hx hb hts fi_X3_isAskMore_X3 hown hEN.1 hP 0 rfl rfl 0 (by decide) (hts (.fieldLink RX3 21 "HourWell$Ways" "world" "LHourWell$World;") (List.mem_of_getElem? (i := 1) rfl)) (fun _ h9 => h9) rfl dX3_isAskMore_30 ?_
  refine lv_iload_n hx hb dX3_isAskMore_33 rfl (lv_at hl 5 rfl) ?_
  obtain ⟨o34, ho34, h⟩ := bnd_some h
  refine call_V0 (As := [.int x2]) (rest := []) ⟨hx, hb, hml, hown, hts⟩ (c_X4_hostAsks l G cI cZ aW vW x2 o34 ho34) (cwV 1 hts gX3_isAskMore_X4_hostAsks rfl rfl rfl hdV_X4_hostAsks ⟨Nat.le_of_ble_eq_true rfl, Nat.le_of_ble_eq_true rfl⟩) hEN hA hP hD hS [4, 7] rfl (by decide) 4 rfl rfl rfl hl.1 rfl (Nat.le_of_ble_eq_true rfl) dX3_isAskMore_34 ⟨Nat.le_of_ble_eq_true rfl, Nat.le_of_ble_eq_true rfl⟩ (fun H locs hP hS => ?_)
  obtain ⟨o37, ho37, h⟩ := bnd_some h
  refine call_S0 (As := [.int o34]) (rest := []) ⟨hx, hb, hml, hown, hts⟩ (c_X3_setsHaving l G cI cZ  o34 o37 ho37) (va_cwS 1 hts gX3_isAskMore_X3_setsHaving rfl rfl rfl hdS_X3_setsHaving ⟨Nat.le_of_ble_eq_true rfl, Nat.le_of_ble_eq_true rfl⟩) hEN hA hP hD hS [] rfl (by decide) rfl hl.1 rfl (Nat.le_of_ble_eq_true rfl) dX3_isAskMore_37 ⟨Nat.le_of_ble_eq_true rfl, Nat.le_of_ble_eq_true rfl⟩ (fun H locs hP hS => ?_)
  refine lv_iload hx hb dX3_isAskMore_40 (lv_at hl 1 rfl) ?_
  obtain ⟨o42, ho42, h⟩ := bnd_some h
  refine call_S0 (As := [.int o15]) (rest := [.int o37]) ⟨hx, hb, hml, hown, hts⟩ (c_X3_setsHaving l G cI cZ  o15 o42 ho42) (va_cwS 1 hts gX3_isAskMore_X3_setsHaving rfl rfl rfl hdS_X3_setsHaving ⟨Nat.le_of_ble_eq_true rfl, Nat.le_of_ble_eq_true rfl⟩) hEN hA hP hD hS [] rfl (by decide) rfl hl.1 rfl (Nat.le_of_ble_eq_true rfl) dX3_isAskMore_42 ⟨Nat.le_of_ble_eq_true rfl, Nat.le_of_ble_eq_true rfl⟩ (fun H locs hP hS => ?_)
  refine lv_iconst (v := (-1 : Int32)) hx hb dX3_isAskMore_45 k_iconst_n1 ?_
  refine lv_ixor hx hb dX3_isAskMore_46 ?_
  refine lv_iand hx hb dX3_isAskMore_47 ?_
  refine lv_istore (lv' := [(7, .int (o37 &&& (o42 ^^^ (-1 : Int32)))), (6, .int o24), (5, .int o15), (4, .int o5), (0, .ref (aY 0)), (1, .int x1), (2, .int x2), (3, .int x3)]) hx hb dX3_isAskMore_48 hl (by decide) rfl (fun ls hl => ?_)
  refine lv_aload_n hx hb dX3_isAskMore_50 rfl (lv_at hl 4 rfl) ?_
  refine lv_iload_n hx hb dX3_isAskMore_51 rfl (lv_at hl 5 rfl) ?_
  refine lv_iload hx hb dX3_isAskMore_52 (lv_at hl 3 rfl) ?_
  refine lv_iload_n hx hb dX3_isAskMore_54 rfl (lv_at hl 7 rfl) ?_
  refine lv_if_eq (tgt := 71) hx hb dX3_isAskMore_55 (by decide) (fun c55 => ?_) (fun c55 => ?_)
  · have h := (if_pos c55).symm.trans h
    refine lv_iload hx hb dX3_isAskMore_71 (lv_at hl 1 rfl) ?_
    refine lv_iconst (v := (1 : Int32)) hx hb dX3_isAskMore_73 k_iconst_1 ?_
    refine lv_iload hx hb dX3_isAskMore_74 (lv_at hl 2 rfl) ?_
    refine lv_ishl hx hb dX3_isAskMore_76 ?_
    refine lv_iushr (v := (ushr o24 ((1 : Int32) <<< (o15 &&& 31)))) hx hb dX3_isAskMore_77 rfl ?_
    refine lv_iload hx hb dX3_isAskMore_78 (lv_at hl 0 rfl) ?_
    refine lv_iand hx hb dX3_isAskMore_80 ?_
    exact j81 vY x1 o5 o24 x1 o5 ((ushr o24 ((1 : Int32) <<< (o15 &&& 31))) &&& (o37 &&& (o42 ^^^ (-1 : Int32)))) h _ _ _ hP hD hS (lv_sub hl [4, 5, 3, 1] rfl)
  · have h := (if_neg c55).symm.trans h
    refine lv_iload hx hb dX3_isAskMore_58 (lv_at hl 1 rfl) ?_
    refine lv_iload hx hb dX3_isAskMore_60 (lv_at hl 0 rfl) ?_
    refine lv_iand hx hb dX3_isAskMore_62 ?_
    refine lv_iconst (v := (1 : Int32)) hx hb dX3_isAskMore_63 k_iconst_1 ?_
    refine lv_iload hx hb dX3_isAskMore_64 (lv_at hl 2 rfl) ?_
    refine lv_ishl hx hb dX3_isAskMore_66 ?_
    refine lv_ishl hx hb dX3_isAskMore_67 ?_
    refine lv_goto (tgt := 81) hx hb dX3_isAskMore_68 (by decide) ?_
    exact j81 vY x1 o5 o24 x1 o5 ((o24 &&& (o37 &&& (o42 ^^^ (-1 : Int32)))) <<< (((1 : Int32) <<< (o15 &&& 31)) &&& 31)) h _ _ _ hP hD hS (lv_sub hl [4, 5, 3, 1] rfl)
abbrev rm_X3_spreadAsks : Room := { frames := 3, cells := 0, slots := 0, locals := 71 }
theorem fi_X3_spreadAsks_X3 : ∀ w ∈ wsX30, w ∈ wsX3_spreadAsks := fun _ h => List.mem_cons_of_mem _ (List.mem_append_left _ (List.mem_append_right _ h))
theorem fi_X3_spreadAsks_X4 : ∀ w ∈ wsX40, w ∈ wsX3_spreadAsks := fun _ h => List.mem_cons_of_mem _ (List.mem_append_right _ h)
theorem hdV_X3_spreadAsks : yX3_spreadAsks.cls = RX3 ∧ yX3_spreadAsks.cls ≠ "java/lang/invoke/MethodHandle" ∧ yX3_spreadAsks.cls ≠ "java/lang/invoke/VarHandle" ∧ (parseMethodDescriptor yX3_spreadAsks.desc).map (fun d => d.parameters.length) = some 3 := by decide +kernel
set_option maxRecDepth 100000 in
set_option maxHeartbeats 4000000 in
theorem c_X3_spreadAsks (l : Launch) (G : va_G) (cI cZ : ClassId) (aY : Nat → Nat) (aW : Nat → Nat) (aS : Nat → Nat) (vY : Ob) (vW : Ob) (x1 : Int32) (x2 : Int32) (x3 : Int32) (res : Ob) (h : m_X3_spreadAsks vY vW x1 x2 x3 = some res) : Ct l yX3_spreadAsks wsX3_spreadAsks rm_X3_spreadAsks G cI cZ [.ref (aY 0), .int x1, .int x2, .int x3] [oX3 aY aW aS vY, ai cI (aY 3) 427 (vY 3), ai cI (aY 4) 7 (vY 4), ai cI (aY 5) 125 (vY 5), oX4 aW vW, ai cI (aW 11) 6 (vW 11), ai cI (aW 12) 6 (vW 12), ai cI (aW 13) 6 (vW 13)] none [oX3 aY aW aS res, ai cI (aY 3) 427 (res 3), ai cI (aY 4) 7 (res 4), ai cI (aY 5) 125 (res 5), oX4 aW vW, ai cI (aW 11) 6 (vW 11), ai cI (aW 12) 6 (vW 12), ai cI (aW 13) 6 (vW 13)] := by
  refine Ct.of_v (maxL := 7) (by decide) rfl (Nat.le_of_ble_eq_true rfl) ?_
  intro p e s m below meth c args hx hb hml hown hts A hA hEN hP hD hS Q hRet ls hl
  have hown : s.vm.findClass RX3 = some m.cls := hown
  have hl : lv_has ls 7 [(0, .ref (aY 0)), (1, .int x1), (2, .int x2), (3, .int x3)] := hl
  have L15 : ∀ (out : Ob × Int32 × Int32 × Int32 × Int32 × Int32), (∀ ex : Ob × Int32 × Int32 × Int32 × Int32 × Int32, out = ex → ∀ (H : Heap) (locs : List Loc) (ls : Array Slot), va_P G vwCl [oX3 aY aW aS ex.1, ai cI (aY 3) 427 (ex.1 3), ai cI (aY 4) 7 (ex.1 4), ai cI (aY 5) 125 (ex.1 5), oX4 aW vW, ai cI (aW 11) 6 (vW 11), ai cI (aW 12) 6 (vW 12), ai cI (aW 13) 6 (vW 13)] H → va_D A [oX3 aY aW aS ex.1, ai cI (aY 3) 427 (ex.1 3), ai cI (aY 4) 7 (ex.1 4), ai cI (aY 5) 125 (ex.1 5), oX4 aW vW, ai cI (aW 11) 6 (vW 11), ai cI (aW 12) 6 (vW 12), ai cI (aW 13) 6 (vW 13)] → va_S A s.heap H locs → lv_has ls 7 [(0, .ref (aY 0)), (1, .int ex.2.1), (2, .int ex.2.2.1), (3, .int ex.2.2.2.1), (4, .int ex.2.2.2.2.1), (5, .int ex.2.2.2.2.2)] → W p l e rm_X3_spreadAsks s m args below meth c H locs 0 0 Q (F0 m 53 ls [])) → ∀ (n : Nat) (vY : Ob) (x1 : Int32) (x2 : Int32) (x3 : Int32) (x4 : Int32) (x5 : Int32) (x6 : Int32), m_X3_spreadAsks_L15 vW n vY x1 x2 x3 x4 x5 x6 = some out → ∀ (H : Heap) (locs : List Loc) (ls : Array Slot), va_P G vwCl [oX3 aY aW aS vY, ai cI (aY 3) 427 (vY 3), ai cI (aY 4) 7 (vY 4), ai cI (aY 5) 125 (vY 5), oX4 aW vW, ai cI (aW 11) 6 (vW 11), ai cI (aW 12) 6 (vW 12), ai cI (aW 13) 6 (vW 13)] H → va_D A [oX3 aY aW aS vY, ai cI (aY 3) 427 (vY 3), ai cI (aY 4) 7 (vY 4), ai cI (aY 5) 125 (vY 5), oX4 aW vW, ai cI (aW 11) 6 (vW 11), ai cI (aW 12) 6 (vW 12), ai cI (aW 13) 6 (vW 13)] → va_S A s.heap H locs → lv_has ls 7 [(0, .ref (aY 0)), (1, .int x1), (2, .int x2), (3, .int x3), (4, .int x4), (5, .int x5), (6, .int x6)] → W p l e rm_X3_spreadAsks s m args below meth c H locs 0 0 Q (F0 m 15 ls []) := by
    intro out hKx
    have j47 : ∀ (rc : Ob → Int32 → Int32 → Int32 → Int32 → Int32 → Int32 → Option (Ob × Int32 × Int32 × Int32 × Int32 × Int32)), (∀ (vY : Ob) (x1 : Int32) (x2 : Int32) (x3 : Int32) (x4 : Int32) (x5 : Int32) (x6 : Int32), rc vY x1 x2 x3 x4 x5 x6 = some out → ∀ (H : Heap) (locs : List Loc) (ls : Array Slot), va_P G vwCl [oX3 aY aW aS vY, ai cI (aY 3) 427 (vY 3), ai cI (aY 4) 7 (vY 4), ai cI (aY 5) 125 (vY 5), oX4 aW vW, ai cI (aW 11) 6 (vW 11), ai cI (aW 12) 6 (vW 12), ai cI (aW 13) 6 (vW 13)] H → va_D A [oX3 aY aW aS vY, ai cI (aY 3) 427 (vY 3), ai cI (aY 4) 7 (vY 4), ai cI (aY 5) 125 (vY 5), oX4 aW vW, ai cI (aW 11) 6 (vW 11), ai cI (aW 12) 6 (vW 12), ai cI (aW 13) 6 (vW 13)] → va_S A s.heap H locs → lv_has ls 7 [(0, .ref (aY 0)), (1, .int x1), (2, .int x2), (3, .int x3), (4, .int x4), (5, .int x5), (6, .int x6)] → W p l e rm_X3_spreadAsks s m args below meth c H locs 0 0 Q (F0 m 15 ls [])) → ∀ (vY : Ob) (x1 : Int32) (x2 : Int32) (x3 : Int32) (x4 : Int32) (x5 : Int32) (x6 : Int32), m_X3_spreadAsks_j47 vW rc vY x1 x2 x3 x4 x5 x6 = some out → ∀ (H : Heap) (locs : List Loc) (ls : Array Slot), va_P G vwCl [oX3 aY aW aS vY, ai cI (aY 3) 427 (vY 3), ai cI (aY 4) 7 (vY 4), ai cI (aY 5) 125 (vY 5), oX4 aW vW, ai cI (aW 11) 6 (vW 11), ai cI (aW 12) 6 (vW 12), ai cI (aW 13) 6 (vW 13)] H → va_D A [oX3 aY aW aS vY, ai cI (aY 3) 427 (vY 3), ai cI (aY 4) 7 (vY 4), ai cI (aY 5) 125 (vY 5), oX4 aW vW, ai cI (aW 11) 6 (vW 11), ai cI (aW 12) 6 (vW 12), ai cI (aW 13) 6 (vW 13)] → va_S A s.heap H locs → lv_has ls 7 [(0, .ref (aY 0)), (1, .int x1), (2, .int x2), (3, .int x3), (4, .int x4), (5, .int x5), (6, .int x6)] → W p l e rm_X3_spreadAsks s m args below meth c H locs 0 0 Q (F0 m 47 ls []) := by
      intro rc hrc vY x1 x2 x3 x4 x5 x6 h H locs ls hP hD hS hl
      unfold m_X3_spreadAsks_j47 at h
      refine lv_iinc (v := (x6 + (1 : Int32))) (lv' := [(6, .int (x6 + (1 : Int32))), (0, .ref (aY 0)), (1, .int x1), (2, .int x2), (3, .int x3), (4, .int x4), (5, .int x5)]) hx hb dX3_spreadAsks_47 hl (k := 6) rfl (congrArg (fun z => x6 + z) k_iconst_1) (by decide) rfl (fun ls hl => ?_)
      refine lv_goto (tgt := 15) hx hb dX3_spreadAsks_50 (by decide) ?_
      exact hrc vY x1 x2 x3 x4 x5 (x6 + (1 : Int32)) h _ _ _ hP hD hS (lv_sub hl [1, 2, 3, 4, 5, 6, 0] rfl)
    intro n
    induction n with
    | zero => intro vY x1 x2 x3 x4 x5 x6 h; exact nomatch (show (none : Option (Ob × Int32 × Int32 × Int32 × Int32 × Int32)) = some out from h)
    | succ n hrc =>
      intro vY x1 x2 x3 x4 x5 x6 h H locs ls hP hD hS hl
      have h : m_X3_spreadAsks_L15B vW (m_X3_spreadAsks_L15 vW n) vY x1 x2 x3 x4 x5 x6 = some out := h
      generalize m_X3_spreadAsks_L15 vW n = rc at h hrc
      unfold m_X3_spreadAsks_L15B at h
      refine lv_iload hx hb dX3_spreadAsks_15 (lv_at hl 6 rfl) ?_
      refine lv_aload_n hx hb dX3_spreadAsks_17 rfl (lv_at hl 0 rfl) ?_
      refine va_get (D := G) (ci := 3) (v := .ref (aW 0)) (C := RX3) (T := TX3) (N := 14) hx hb hts fi_X3_spreadAsks_X3 hown hEN.1 hP 0 rfl rfl 0 (by decide) (hts (.fieldLink RX3 21 "HourWell$Ways" "world" "LHourWell$World;") (List.mem_of_getElem? (i := 1) rfl)) (fun _ h9 => h9) rfl dX3_spreadAsks_18 ?_
      refine va_get (D := G) (ci := 4) (v := .int (vW 0 2)) (C := RX4) (T := TX4) (N := 13) hx hb hts fi_X3_spreadAsks_X4 hown hEN.1 hP 4 rfl rfl 2 (by decide) (hts (.fieldLink RX3 109 "HourWell$World" "hosts" "I") (List.mem_of_getElem? (i := 2) rfl)) (fun _ h9 => h9) rfl dX3_spreadAsks_21 ?_
      refine lv_icmp_ge (tgt := 53) hx hb dX3_spreadAsks_24 (by decide) (fun c24 => ?_) (fun c24 => ?_)
      · have h := (if_pos c24).symm.trans h
        exact hKx _ (Option.some.inj h).symm _ _ _ hP hD hS (lv_sub hl [0, 1, 2, 3, 4, 5] rfl)
      · have h := (if_neg c24).symm.trans h
        refine lv_iload hx hb dX3_spreadAsks_27 (lv_at hl 6 rfl) ?_
        refine lv_iload_n hx hb dX3_spreadAsks_29 rfl (lv_at hl 3 rfl) ?_
        refine lv_icmp_eq (tgt := 47) hx hb dX3_spreadAsks_30 (by decide) (fun c30 => ?_) (fun c30 => ?_)
        · have h := (if_pos c30).symm.trans h
          exact j47 rc hrc vY x1 x2 x3 x4 x5 x6 h _ _ _ hP hD hS (lv_sub hl [0, 1, 2, 3, 4, 5, 6] rfl)
        · have h := (if_neg c30).symm.trans h
          refine lv_aload_n hx hb dX3_spreadAsks_33 rfl (lv_at hl 0 rfl) ?_
          refine lv_iload_n hx hb dX3_spreadAsks_34 rfl (lv_at hl 1 rfl) ?_
          refine lv_iload hx hb dX3_spreadAsks_35 (lv_at hl 6 rfl) ?_
          refine lv_iload_n hx hb dX3_spreadAsks_37 rfl (lv_at hl 2 rfl) ?_
          obtain ⟨o38, ho38, h⟩ := bnd_some h
          refine call_VJ (wr := []) (As := [.int x1, .int x6, .int x2]) (rest := []) ⟨hx, hb, hml, hown, hts⟩ (c_X3_isAskMore l G cI cZ aY aW aS vY vW x1 x6 x2 o38 ho38) (cwV 3 hts gX3_spreadAsks_X3_isAskMore rfl rfl rfl hdV_X3_isAskMore ⟨Nat.le_of_ble_eq_true rfl, Nat.le_of_ble_eq_true rfl⟩) hEN hA hP hD hS [0, 1, 2, 3, 4, 5, 6, 7] [] rfl (by decide) rfl (by decide) (by decide) 0 rfl rfl rfl hl.1 rfl (Nat.le_of_ble_eq_true rfl) dX3_spreadAsks_38 ⟨Nat.le_of_ble_eq_true rfl, Nat.le_of_ble_eq_true rfl⟩ (fun H locs hP hD hS => ?_)
          have hP : va_P G vwCl [oX3 aY aW aS o38.2, ai cI (aY 3) 427 (o38.2 3), ai cI (aY 4) 7 (o38.2 4), ai cI (aY 5) 125 (o38.2 5), oX4 aW vW, ai cI (aW 11) 6 (vW 11), ai cI (aW 12) 6 (vW 12), ai cI (aW 13) 6 (vW 13)] H := hP
          have hD : va_D A [oX3 aY aW aS o38.2, ai cI (aY 3) 427 (o38.2 3), ai cI (aY 4) 7 (o38.2 4), ai cI (aY 5) 125 (o38.2 5), oX4 aW vW, ai cI (aW 11) 6 (vW 11), ai cI (aW 12) 6 (vW 12), ai cI (aW 13) 6 (vW 13)] := hD
          refine lv_if_eq (tgt := 47) hx hb dX3_spreadAsks_41 (by decide) (fun c41 => ?_) (fun c41 => ?_)
          · have h := (if_pos c41).symm.trans h
            exact j47 rc hrc o38.2 x1 x2 x3 x4 x5 x6 h _ _ _ hP hD hS (lv_sub hl [0, 1, 2, 3, 4, 5, 6] rfl)
          · have h := (if_neg c41).symm.trans h
            refine lv_iconst (v := (1 : Int32)) hx hb dX3_spreadAsks_44 k_iconst_1 ?_
            refine lv_istore (lv' := [(5, .int (1 : Int32)), (0, .ref (aY 0)), (1, .int x1), (2, .int x2), (3, .int x3), (4, .int x4), (6, .int x6)]) hx hb dX3_spreadAsks_45 hl (by decide) rfl (fun ls hl => ?_)
            exact j47 rc hrc o38.2 x1 x2 x3 x4 (1 : Int32) x6 h _ _ _ hP hD hS (lv_sub hl [1, 2, 3, 4, 5, 0, 6] rfl)
  have L3 : ∀ (out : (Ob) ⊕ (Ob)), (∀ r : Ob, out = Sum.inl r → r = res) → (∀ ex : Ob, out = Sum.inr ex → ∀ (H : Heap) (locs : List Loc) (ls : Array Slot), va_P G vwCl [oX3 aY aW aS ex, ai cI (aY 3) 427 (ex 3), ai cI (aY 4) 7 (ex 4), ai cI (aY 5) 125 (ex 5), oX4 aW vW, ai cI (aW 11) 6 (vW 11), ai cI (aW 12) 6 (vW 12), ai cI (aW 13) 6 (vW 13)] H → va_D A [oX3 aY aW aS ex, ai cI (aY 3) 427 (ex 3), ai cI (aY 4) 7 (ex 4), ai cI (aY 5) 125 (ex 5), oX4 aW vW, ai cI (aW 11) 6 (vW 11), ai cI (aW 12) 6 (vW 12), ai cI (aW 13) 6 (vW 13)] → va_S A s.heap H locs → lv_has ls 7 [] → W p l e rm_X3_spreadAsks s m args below meth c H locs 0 0 Q (F0 m 65 ls [])) → ∀ (n : Nat) (vY : Ob) (x1 : Int32) (x2 : Int32) (x3 : Int32) (x4 : Int32), m_X3_spreadAsks_L3 vW n vY x1 x2 x3 x4 = some out → ∀ (H : Heap) (locs : List Loc) (ls : Array Slot), va_P G vwCl [oX3 aY aW aS vY, ai cI (aY 3) 427 (vY 3), ai cI (aY 4) 7 (vY 4), ai cI (aY 5) 125 (vY 5), oX4 aW vW, ai cI (aW 11) 6 (vW 11), ai cI (aW 12) 6 (vW 12), ai cI (aW 13) 6 (vW 13)] H → va_D A [oX3 aY aW aS vY, ai cI (aY 3) 427 (vY 3), ai cI (aY 4) 7 (vY 4), ai cI (aY 5) 125 (vY 5), oX4 aW vW, ai cI (aW 11) 6 (vW 11), ai cI (aW 12) 6 (vW 12), ai cI (aW 13) 6 (vW 13)] → va_S A s.heap H locs → lv_has ls 7 [(0, .ref (aY 0)), (1, .int x1), (2, .int x2), (3, .int x3), (4, .int x4)] → W p l e rm_X3_spreadAsks s m args below meth c H locs 0 0 Q (F0 m 3 ls []) := by
    intro out hKr hKx
    intro n
    induction n with
    | zero => intro vY x1 x2 x3 x4 h; exact nomatch (show (none : Option ((Ob) ⊕ (Ob))) = some out from h)
    | succ n hrc =>
      intro vY x1 x2 x3 x4 h H locs ls hP hD hS hl
      have h : m_X3_spreadAsks_L3B vW (m_X3_spreadAsks_L3 vW n) vY x1 x2 x3 x4 = some out := h
      generalize m_X3_spreadAsks_L3 vW n = rc at h hrc
      unfold m_X3_spreadAsks_L3B at h
      refine lv_iload hx hb dX3_spreadAsks_3 (lv_at hl 4 rfl) ?_
      refine lv_iconst (v := (5 : Int32)) hx hb dX3_spreadAsks_5 k_iconst_5 ?_
      refine lv_icmp_ge (tgt := 65) hx hb dX3_spreadAsks_6 (by decide) (fun c6 => ?_) (fun c6 => ?_)
      · have h := (if_pos c6).symm.trans h
        exact hKx _ (Option.some.inj h).symm _ _ _ hP hD hS (lv_sub hl [] rfl)
      · have h := (if_neg c6).symm.trans h
        refine lv_iconst (v := (0 : Int32)) hx hb dX3_spreadAsks_9 k_iconst_0 ?_
        refine lv_istore (lv' := [(5, .int (0 : Int32)), (0, .ref (aY 0)), (1, .int x1), (2, .int x2), (3, .int x3), (4, .int x4)]) hx hb dX3_spreadAsks_10 hl (by decide) rfl (fun ls hl => ?_)
        refine lv_iconst (v := (0 : Int32)) hx hb dX3_spreadAsks_12 k_iconst_0 ?_
        refine lv_istore (lv' := [(6, .int (0 : Int32)), (5, .int (0 : Int32)), (0, .ref (aY 0)), (1, .int x1), (2, .int x2), (3, .int x3), (4, .int x4)]) hx hb dX3_spreadAsks_13 hl (by decide) rfl (fun ls hl => ?_)
        obtain ⟨o15_1, ho15_1, h⟩ := bnd_some h
        refine L15 o15_1 (fun o15_1e er H locs ls hP hD hS hl => ?_) FU vY x1 x2 x3 x4 (0 : Int32) (0 : Int32) ho15_1 _ _ _ hP hD hS (lv_sub hl [2, 3, 4, 5, 6, 1, 0] rfl)
        subst er
        refine lv_iload hx hb dX3_spreadAsks_53 (lv_at hl 5 rfl) ?_
        refine lv_if_ne (tgt := 59) hx hb dX3_spreadAsks_55 (by decide) (fun c55 => ?_) (fun c55 => ?_)
        · have h := (if_neg c55).symm.trans h
          refine lv_iinc (v := (o15_1.2.2.2.2.1 + (1 : Int32))) (lv' := [(4, .int (o15_1.2.2.2.2.1 + (1 : Int32))), (0, .ref (aY 0)), (1, .int o15_1.2.1), (2, .int o15_1.2.2.1), (3, .int o15_1.2.2.2.1), (5, .int o15_1.2.2.2.2.2)]) hx hb dX3_spreadAsks_59 hl (k := 4) rfl (congrArg (fun z => o15_1.2.2.2.2.1 + z) k_iconst_1) (by decide) rfl (fun ls hl => ?_)
          refine lv_goto (tgt := 3) hx hb dX3_spreadAsks_62 (by decide) ?_
          exact hrc o15_1.1 o15_1.2.1 o15_1.2.2.1 o15_1.2.2.2.1 (o15_1.2.2.2.2.1 + (1 : Int32)) h _ _ _ hP hD hS (lv_sub hl [1, 2, 3, 4, 0] rfl)
        · have h := (if_pos c55).symm.trans h
          have hres := hKr _ (Option.some.inj h).symm
          subst hres
          exact hRet 58 _ _ _ hP hD hS dX3_spreadAsks_58
  unfold m_X3_spreadAsks at h
  refine lv_iconst (v := (0 : Int32)) hx hb dX3_spreadAsks_0 k_iconst_0 ?_
  refine lv_istore (lv' := [(4, .int (0 : Int32)), (0, .ref (aY 0)), (1, .int x1), (2, .int x2), (3, .int x3)]) hx hb dX3_spreadAsks_1 hl (by decide) rfl (fun ls hl => ?_)
  obtain ⟨o3_2, ho3_2, h⟩ := bnd_some h
  refine L3 o3_2 (fun r er => ?_) (fun o3_2x er H locs ls hP hD hS hl => ?_) FU vY x1 x2 x3 (0 : Int32) ho3_2 _ _ _ hP hD hS (lv_sub hl [1, 2, 3, 4, 0] rfl)
  · subst er
    have h := (sm_l _ _ _).symm.trans h
    exact Option.some.inj h
  · subst er
    have h := (sm_r _ _ _).symm.trans h
    have hres := Option.some.inj h
    subst hres
    exact hRet 65 _ _ _ hP hD hS dX3_spreadAsks_65
abbrev rm_X3_setsLess : Room := { frames := 1, cells := 0, slots := 0, locals := 20 }
theorem hdS_X3_setsLess : yX3_setsLess.cls ≠ "java/lang/invoke/MethodHandle" ∧ yX3_setsLess.cls ≠ "java/lang/invoke/VarHandle" ∧ (parseMethodDescriptor yX3_setsLess.desc).map (fun d => d.parameters.length) = some 2 := by decide +kernel
set_option maxRecDepth 100000 in
set_option maxHeartbeats 4000000 in
theorem c_X3_setsLess (l : Launch) (G : va_G) (cI cZ : ClassId)   (x0 : Int32) (x1 : Int32) (res : Int32) (h : m_X3_setsLess  x0 x1 = some res) : Ct l yX3_setsLess wsX3_setsLess rm_X3_setsLess G cI cZ [.int x0, .int x1] [] (some (.int res)) [] := by
  refine Ct.of_i (maxL := 2) (by decide) rfl (Nat.le_of_ble_eq_true rfl) ?_
  intro p e s m below meth c args hx hb hml hown hts A hA hEN hP hD hS Q hRet ls hl
  have hown : s.vm.findClass RX3 = some m.cls := hown
  have hl : lv_has ls 2 [(0, .int x0), (1, .int x1)] := hl
  obtain ⟨aH, hZ, hX⟩ := hEN.2.2
  unfold m_X3_setsLess at h
  refine lv_iload_n hx hb dX3_setsLess_0 rfl (lv_at hl 1 rfl) ?_
  obtain ⟨o1, ho1, h⟩ := bnd_some h
  refine call_SN0 (As := [.int x1]) (rest := []) ⟨hx, hb, hml, hown, hts⟩ (c_X5_isThing l G cI cZ  x1 o1 ho1) ⟨va_cnB 1 hts gX3_setsLess_X5_isThing_n208 rfl rfl rfl (hEN.2.1 _ (List.mem_of_getElem? (i := 7) rfl)) (hts (.initialized RX5) (List.mem_of_getElem? (i := 3) rfl)) hdS_X5_isThing ⟨Nat.le_of_ble_eq_true rfl, Nat.le_of_ble_eq_true rfl⟩, hts (.static yX5_isThing) (List.mem_of_getElem? (i := 2) rfl), trivial⟩ hEN hA hP hD hS [] rfl (by decide) rfl hl.1 rfl (Nat.le_of_ble_eq_true rfl) dX3_setsLess_1 ⟨Nat.le_of_ble_eq_true rfl, Nat.le_of_ble_eq_true rfl⟩ (fun H locs hP hS => ?_)
  refine lv_if_eq (tgt := 21) hx hb dX3_setsLess_4 (by decide) (fun c4 => ?_) (fun c4 => ?_)
  · have h := (if_pos c4).symm.trans h
    refine lv_iload_n hx hb dX3_setsLess_21 rfl (lv_at hl 0 rfl) ?_
    have hres := Option.some.inj h
    subst hres
    exact hRet 22 _ _ _ hP hD hS dX3_setsLess_22
  · have h := (if_neg c4).symm.trans h
    refine lv_iload_n hx hb dX3_setsLess_7 rfl (lv_at hl 0 rfl) ?_
    refine va_gets hx hb hZ hS hown (hts (.fieldLink RX3 211 "HourWell$Ways" "HAVING" "[I") (List.mem_of_getElem? (i := 1) rfl)) (fun _ h9 => h9) dX3_setsLess_8 ?_
    refine lv_iload_n hx hb dX3_setsLess_11 rfl (lv_at hl 1 rfl) ?_
    obtain ⟨hg12, h⟩ := grd_some h
    refine va_ti (v := .int (fHav (Int32.toNatClampNeg x1))) hx hb hX hS (inb_in hg12) rfl dX3_setsLess_12 ?_
    refine lv_iand hx hb dX3_setsLess_13 ?_
    refine lv_iconst (v := (1 : Int32)) hx hb dX3_setsLess_14 k_iconst_1 ?_
    refine lv_iload_n hx hb dX3_setsLess_15 rfl (lv_at hl 1 rfl) ?_
    refine lv_ishl hx hb dX3_setsLess_16 ?_
    refine lv_iushr (v := (ushr (x0 &&& (fHav (Int32.toNatClampNeg x1))) ((1 : Int32) <<< (x1 &&& 31)))) hx hb dX3_setsLess_17 rfl ?_
    refine lv_goto (tgt := 22) hx hb dX3_setsLess_18 (by decide) ?_
    have hres := Option.some.inj h
    subst hres
    exact hRet 22 _ _ _ hP hD hS dX3_setsLess_22
abbrev rm_X3_setsWith : Room := { frames := 1, cells := 0, slots := 0, locals := 20 }
theorem hdS_X3_setsWith : yX3_setsWith.cls ≠ "java/lang/invoke/MethodHandle" ∧ yX3_setsWith.cls ≠ "java/lang/invoke/VarHandle" ∧ (parseMethodDescriptor yX3_setsWith.desc).map (fun d => d.parameters.length) = some 2 := by decide +kernel
set_option maxRecDepth 100000 in
set_option maxHeartbeats 4000000 in
theorem c_X3_setsWith (l : Launch) (G : va_G) (cI cZ : ClassId)   (x0 : Int32) (x1 : Int32) (res : Int32) (h : m_X3_setsWith  x0 x1 = some res) : Ct l yX3_setsWith wsX3_setsWith rm_X3_setsWith G cI cZ [.int x0, .int x1] [] (some (.int res)) [] := by
  refine Ct.of_i (maxL := 2) (by decide) rfl (Nat.le_of_ble_eq_true rfl) ?_
  intro p e s m below meth c args hx hb hml hown hts A hA hEN hP hD hS Q hRet ls hl
  have hown : s.vm.findClass RX3 = some m.cls := hown
  have hl : lv_has ls 2 [(0, .int x0), (1, .int x1)] := hl
  obtain ⟨aH, hZ, hX⟩ := hEN.2.2
  unfold m_X3_setsWith at h
  refine lv_iload_n hx hb dX3_setsWith_0 rfl (lv_at hl 1 rfl) ?_
  obtain ⟨o1, ho1, h⟩ := bnd_some h
  refine call_SN0 (As := [.int x1]) (rest := []) ⟨hx, hb, hml, hown, hts⟩ (c_X5_isThing l G cI cZ  x1 o1 ho1) ⟨va_cnB 1 hts gX3_setsWith_X5_isThing_n208 rfl rfl rfl (hEN.2.1 _ (List.mem_of_getElem? (i := 7) rfl)) (hts (.initialized RX5) (List.mem_of_getElem? (i := 3) rfl)) hdS_X5_isThing ⟨Nat.le_of_ble_eq_true rfl, Nat.le_of_ble_eq_true rfl⟩, hts (.static yX5_isThing) (List.mem_of_getElem? (i := 2) rfl), trivial⟩ hEN hA hP hD hS [] rfl (by decide) rfl hl.1 rfl (Nat.le_of_ble_eq_true rfl) dX3_setsWith_1 ⟨Nat.le_of_ble_eq_true rfl, Nat.le_of_ble_eq_true rfl⟩ (fun H locs hP hS => ?_)
  refine lv_if_eq (tgt := 21) hx hb dX3_setsWith_4 (by decide) (fun c4 => ?_) (fun c4 => ?_)
  · have h := (if_pos c4).symm.trans h
    refine lv_iload_n hx hb dX3_setsWith_21 rfl (lv_at hl 0 rfl) ?_
    have hres := Option.some.inj h
    subst hres
    exact hRet 22 _ _ _ hP hD hS dX3_setsWith_22
  · have h := (if_neg c4).symm.trans h
    refine lv_iload_n hx hb dX3_setsWith_7 rfl (lv_at hl 0 rfl) ?_
    refine lv_iconst (v := (1 : Int32)) hx hb dX3_setsWith_8 k_iconst_1 ?_
    refine lv_iload_n hx hb dX3_setsWith_9 rfl (lv_at hl 1 rfl) ?_
    refine lv_ishl hx hb dX3_setsWith_10 ?_
    refine lv_ishl hx hb dX3_setsWith_11 ?_
    refine va_gets hx hb hZ hS hown (hts (.fieldLink RX3 211 "HourWell$Ways" "HAVING" "[I") (List.mem_of_getElem? (i := 1) rfl)) (fun _ h9 => h9) dX3_setsWith_12 ?_
    refine lv_iload_n hx hb dX3_setsWith_15 rfl (lv_at hl 1 rfl) ?_
    obtain ⟨hg16, h⟩ := grd_some h
    refine va_ti (v := .int (fHav (Int32.toNatClampNeg x1))) hx hb hX hS (inb_in hg16) rfl dX3_setsWith_16 ?_
    refine lv_iand hx hb dX3_setsWith_17 ?_
    refine lv_goto (tgt := 22) hx hb dX3_setsWith_18 (by decide) ?_
    have hres := Option.some.inj h
    subst hres
    exact hRet 22 _ _ _ hP hD hS dX3_setsWith_22
abbrev rm_X3_spreadWalk : Room := { frames := 2, cells := 0, slots := 0, locals := 44 }
theorem fi_X3_spreadWalk_X3 : ∀ w ∈ wsX30, w ∈ wsX3_spreadWalk := fun _ h => List.mem_cons_of_mem _ (List.mem_append_left _ (List.mem_append_left _ (List.mem_append_right _ h)))
theorem fi_X3_spreadWalk_X2 : ∀ w ∈ wsX20, w ∈ wsX3_spreadWalk := fun _ h => List.mem_cons_of_mem _ (List.mem_append_left _ (List.mem_append_right _ h))
theorem fi_X3_spreadWalk_X4 : ∀ w ∈ wsX40, w ∈ wsX3_spreadWalk := fun _ h => List.mem_cons_of_mem _ (List.mem_append_right _ h)
theorem hdV_X3_spreadWalk : yX3_spreadWalk.cls = RX3 ∧ yX3_spreadWalk.cls ≠ "java/lang/invoke/MethodHandle" ∧ yX3_spreadWalk.cls ≠ "java/lang/invoke/VarHandle" ∧ (parseMethodDescriptor yX3_spreadWalk.desc).map (fun d => d.parameters.length) = some 5 := by decide +kernel
set_option maxRecDepth 100000 in
set_option maxHeartbeats 4000000 in
theorem c_X3_spreadWalk (l : Launch) (G : va_G) (cI cZ : ClassId) (aY : Nat → Nat) (aW : Nat → Nat) (aS : Nat → Nat) (vY : Ob) (vW : Ob) (vS : Ob) (x1 : Int32) (x2 : Int32) (x3 : Int32) (x4 : Int32) (x5 : Int32) (res : Ob) (h : m_X3_spreadWalk vY vW vS x1 x2 x3 x4 x5 = some res) : Ct l yX3_spreadWalk wsX3_spreadWalk rm_X3_spreadWalk G cI cZ [.ref (aY 0), .int x1, .int x2, .int x3, .int x4, .int x5] [oX3 aY aW aS vY, ai cI (aY 3) 427 (vY 3), ai cI (aY 4) 7 (vY 4), ai cI (aY 5) 125 (vY 5), oX4 aW vW, ai cI (aW 5) 7 (vW 5), ai cI (aW 6) 7 (vW 6), ai cI (aW 7) 7 (vW 7), oX2 aS vS] none [oX3 aY aW aS res, ai cI (aY 3) 427 (res 3), ai cI (aY 4) 7 (res 4), ai cI (aY 5) 125 (res 5), oX4 aW vW, ai cI (aW 5) 7 (vW 5), ai cI (aW 6) 7 (vW 6), ai cI (aW 7) 7 (vW 7), oX2 aS vS] := by
  refine Ct.of_v (maxL := 7) (by decide) rfl (Nat.le_of_ble_eq_true rfl) ?_
  intro p e s m below meth c args hx hb hml hown hts A hA hEN hP hD hS Q hRet ls hl
  have hown : s.vm.findClass RX3 = some m.cls := hown
  have hl : lv_has ls 7 [(0, .ref (aY 0)), (1, .int x1), (2, .int x2), (3, .int x3), (4, .int x4), (5, .int x5)] := hl
  unfold m_X3_spreadWalk at h
  refine lv_aload_n hx hb dX3_spreadWalk_0 rfl (lv_at hl 0 rfl) ?_
  refine va_get (D := G) (ci := 3) (v := .ref (aW 0)) (C := RX3) (T := TX3) (N := 14) hx hb hts fi_X3_spreadWalk_X3 hown hEN.1 hP 0 rfl rfl 0 (by decide) (hts (.fieldLink RX3 21 "HourWell$Ways" "world" "LHourWell$World;") (List.mem_of_getElem? (i := 1) rfl)) (fun _ h9 => h9) rfl dX3_spreadWalk_1 ?_
  refine lv_iload hx hb dX3_spreadWalk_4 (lv_at hl 4 rfl) ?_
  refine lv_aload_n hx hb dX3_spreadWalk_6 rfl (lv_at hl 0 rfl) ?_
  refine va_get (D := G) (ci := 3) (v := .ref (aS 0)) (C := RX3) (T := TX3) (N := 14) hx hb hts fi_X3_spreadWalk_X3 hown hEN.1 hP 0 rfl rfl 1 (by decide) (hts (.fieldLink RX3 25 "HourWell$Ways" "son" "LHourWell$Son;") (List.mem_of_getElem? (i := 2) rfl)) (fun _ h9 => h9) rfl dX3_spreadWalk_7 ?_
  refine va_get (D := G) (ci := 2) (v := .int (vS 0 1)) (C := RX2) (T := TX2) (N := 8) hx hb hts fi_X3_spreadWalk_X2 hown hEN.1 hP 8 rfl rfl 1 (by decide) (hts (.fieldLink RX3 45 "HourWell$Son" "hour" "I") (List.mem_of_getElem? (i := 3) rfl)) (fun _ h9 => h9) rfl dX3_spreadWalk_10 ?_
  refine lv_iload_n hx hb dX3_spreadWalk_13 rfl (lv_at hl 2 rfl) ?_
  refine lv_iadd hx hb dX3_spreadWalk_14 ?_
  obtain ⟨o15, ho15, h⟩ := bnd_some h
  refine call_V0 (As := [.int x4, .int ((vS 0 1) + x2)]) (rest := []) ⟨hx, hb, hml, hown, hts⟩ (c_X4_isOpen l G cI cZ aW vW x4 ((vS 0 1) + x2) o15 ho15) (cwV 2 hts gX3_spreadWalk_X4_isOpen rfl rfl rfl hdV_X4_isOpen ⟨Nat.le_of_ble_eq_true rfl, Nat.le_of_ble_eq_true rfl⟩) hEN hA hP hD hS [4, 6, 7] rfl (by decide) 4 rfl rfl rfl hl.1 rfl (Nat.le_of_ble_eq_true rfl) dX3_spreadWalk_15 ⟨Nat.le_of_ble_eq_true rfl, Nat.le_of_ble_eq_true rfl⟩ (fun H locs hP hS => ?_)
  refine lv_if_ne (tgt := 22) hx hb dX3_spreadWalk_18 (by decide) (fun c18 => ?_) (fun c18 => ?_)
  · have h := (if_neg c18).symm.trans h
    refine lv_aload_n hx hb dX3_spreadWalk_22 rfl (lv_at hl 0 rfl) ?_
    refine va_get (D := G) (ci := 3) (v := .ref (aW 0)) (C := RX3) (T := TX3) (N := 14) hx hb hts fi_X3_spreadWalk_X3 hown hEN.1 hP 0 rfl rfl 0 (by decide) (hts (.fieldLink RX3 21 "HourWell$Ways" "world" "LHourWell$World;") (List.mem_of_getElem? (i := 1) rfl)) (fun _ h9 => h9) rfl dX3_spreadWalk_23 ?_
    refine lv_iload hx hb dX3_spreadWalk_26 (lv_at hl 4 rfl) ?_
    obtain ⟨o28, ho28, h⟩ := bnd_some h
    refine call_V0 (As := [.int x4]) (rest := []) ⟨hx, hb, hml, hown, hts⟩ (c_X4_lionAt l G cI cZ aW vW x4 o28 ho28) (cwV 1 hts gX3_spreadWalk_X4_lionAt rfl rfl rfl hdV_X4_lionAt ⟨Nat.le_of_ble_eq_true rfl, Nat.le_of_ble_eq_true rfl⟩) hEN hA hP hD hS [4, 5] rfl (by decide) 4 rfl rfl rfl hl.1 rfl (Nat.le_of_ble_eq_true rfl) dX3_spreadWalk_28 ⟨Nat.le_of_ble_eq_true rfl, Nat.le_of_ble_eq_true rfl⟩ (fun H locs hP hS => ?_)
    refine lv_istore (lv' := [(6, .int o28), (0, .ref (aY 0)), (1, .int x1), (2, .int x2), (3, .int x3), (4, .int x4), (5, .int x5)]) hx hb dX3_spreadWalk_31 hl (by decide) rfl (fun ls hl => ?_)
    refine lv_iload hx hb dX3_spreadWalk_33 (lv_at hl 6 rfl) ?_
    refine lv_if_eq (tgt := 59) hx hb dX3_spreadWalk_35 (by decide) (fun c35 => ?_) (fun c35 => ?_)
    · have h := (if_pos c35).symm.trans h
      refine lv_aload_n hx hb dX3_spreadWalk_59 rfl (lv_at hl 1 rfl) ?_
      refine lv_iload_n hx hb dX3_spreadWalk_60 rfl (lv_at hl 2 rfl) ?_
      refine lv_iload_n hx hb dX3_spreadWalk_61 rfl (lv_at hl 4 rfl) ?_
      refine lv_aload_n hx hb dX3_spreadWalk_62 rfl (lv_at hl 1 rfl) ?_
      refine lv_iload_n hx hb dX3_spreadWalk_63 rfl (lv_at hl 3 rfl) ?_
      refine lv_iload hx hb dX3_spreadWalk_64 (lv_at hl 5 rfl) ?_
      obtain ⟨o66, ho66, h⟩ := bnd_some h
      refine call_V0 (As := [.int x2, .int x4]) (rest := [.int x3, .int x1, .ref (aY 0)]) ⟨hx, hb, hml, hown, hts⟩ (c_X3_setsAt l G cI cZ aY aW aS vY x2 x4 o66 ho66) (cwV 2 hts gX3_spreadWalk_X3_setsAt rfl rfl rfl hdV_X3_setsAt ⟨Nat.le_of_ble_eq_true rfl, Nat.le_of_ble_eq_true rfl⟩) hEN hA hP hD hS [0, 1] rfl (by decide) 0 rfl rfl rfl hl.1 rfl (Nat.le_of_ble_eq_true rfl) dX3_spreadWalk_66 ⟨Nat.le_of_ble_eq_true rfl, Nat.le_of_ble_eq_true rfl⟩ (fun H locs hP hS => ?_)
      refine lv_iload hx hb dX3_spreadWalk_69 (lv_at hl 0 rfl) ?_
      obtain ⟨o71, ho71, h⟩ := bnd_some h
      refine call_S0 (As := [.int o66, .int o28]) (rest := [.int x3, .int x1, .ref (aY 0)]) ⟨hx, hb, hml, hown, hts⟩ (c_X3_setsWith l G cI cZ  o66 o28 o71 ho71) (va_cwS 2 hts gX3_spreadWalk_X3_setsWith rfl rfl rfl hdS_X3_setsWith ⟨Nat.le_of_ble_eq_true rfl, Nat.le_of_ble_eq_true rfl⟩) hEN hA hP hD hS [] rfl (by decide) rfl hl.1 rfl (Nat.le_of_ble_eq_true rfl) dX3_spreadWalk_71 ⟨Nat.le_of_ble_eq_true rfl, Nat.le_of_ble_eq_true rfl⟩ (fun H locs hP hS => ?_)
      obtain ⟨o74, ho74, h⟩ := bnd_some h
      refine call_VJ (wr := [oX4 aW vW, ai cI (aW 5) 7 (vW 5), ai cI (aW 6) 7 (vW 6), ai cI (aW 7) 7 (vW 7), oX2 aS vS]) (As := [.int x1, .int x3, .int o71]) (rest := []) ⟨hx, hb, hml, hown, hts⟩ (c_X3_addSets l G cI cZ aY aW aS vY x1 x3 o71 o74 ho74) (cwV 3 hts gX3_spreadWalk_X3_addSets rfl rfl rfl hdV_X3_addSets ⟨Nat.le_of_ble_eq_true rfl, Nat.le_of_ble_eq_true rfl⟩) hEN hA hP hD hS [0, 1, 2, 3] [4, 5, 6, 7, 8] rfl (by decide) rfl (by decide) (by decide) 0 rfl rfl rfl hl.1 rfl (Nat.le_of_ble_eq_true rfl) dX3_spreadWalk_74 ⟨Nat.le_of_ble_eq_true rfl, Nat.le_of_ble_eq_true rfl⟩ (fun H locs hP hD hS => ?_)
      have hP : va_P G vwCl [oX4 aW vW, ai cI (aW 5) 7 (vW 5), ai cI (aW 6) 7 (vW 6), ai cI (aW 7) 7 (vW 7), oX2 aS vS, oX3 aY aW aS o74, ai cI (aY 3) 427 (o74 3), ai cI (aY 4) 7 (o74 4), ai cI (aY 5) 125 (o74 5)] H := hP
      have hD : va_D A [oX4 aW vW, ai cI (aW 5) 7 (vW 5), ai cI (aW 6) 7 (vW 6), ai cI (aW 7) 7 (vW 7), oX2 aS vS, oX3 aY aW aS o74, ai cI (aY 3) 427 (o74 3), ai cI (aY 4) 7 (o74 4), ai cI (aY 5) 125 (o74 5)] := hD
      have hres := Option.some.inj h
      subst hres
      exact hRet 77 _ _ _ (hP.sub [5, 6, 7, 8, 0, 1, 2, 3, 4] rfl) (hD.sub [5, 6, 7, 8, 0, 1, 2, 3, 4] (by decide) rfl) hS dX3_spreadWalk_77
    · have h := (if_neg c35).symm.trans h
      refine lv_aload_n hx hb dX3_spreadWalk_38 rfl (lv_at hl 1 rfl) ?_
      refine lv_iload_n hx hb dX3_spreadWalk_39 rfl (lv_at hl 3 rfl) ?_
      refine lv_iload hx hb dX3_spreadWalk_40 (lv_at hl 5 rfl) ?_
      refine lv_aload_n hx hb dX3_spreadWalk_42 rfl (lv_at hl 1 rfl) ?_
      refine lv_iload_n hx hb dX3_spreadWalk_43 rfl (lv_at hl 2 rfl) ?_
      refine lv_iload_n hx hb dX3_spreadWalk_44 rfl (lv_at hl 4 rfl) ?_
      obtain ⟨o45, ho45, h⟩ := bnd_some h
      refine call_V0 (As := [.int x1, .int x3]) (rest := [.int x4, .int x2, .ref (aY 0)]) ⟨hx, hb, hml, hown, hts⟩ (c_X3_setsAt l G cI cZ aY aW aS vY x1 x3 o45 ho45) (cwV 2 hts gX3_spreadWalk_X3_setsAt rfl rfl rfl hdV_X3_setsAt ⟨Nat.le_of_ble_eq_true rfl, Nat.le_of_ble_eq_true rfl⟩) hEN hA hP hD hS [0, 1] rfl (by decide) 0 rfl rfl rfl hl.1 rfl (Nat.le_of_ble_eq_true rfl) dX3_spreadWalk_45 ⟨Nat.le_of_ble_eq_true rfl, Nat.le_of_ble_eq_true rfl⟩ (fun H locs hP hS => ?_)
      refine lv_iload hx hb dX3_spreadWalk_48 (lv_at hl 0 rfl) ?_
      obtain ⟨o50, ho50, h⟩ := bnd_some h
      refine call_S0 (As := [.int o45, .int o28]) (rest := [.int x4, .int x2, .ref (aY 0)]) ⟨hx, hb, hml, hown, hts⟩ (c_X3_setsLess l G cI cZ  o45 o28 o50 ho50) (va_cwS 2 hts gX3_spreadWalk_X3_setsLess rfl rfl rfl hdS_X3_setsLess ⟨Nat.le_of_ble_eq_true rfl, Nat.le_of_ble_eq_true rfl⟩) hEN hA hP hD hS [] rfl (by decide) rfl hl.1 rfl (Nat.le_of_ble_eq_true rfl) dX3_spreadWalk_50 ⟨Nat.le_of_ble_eq_true rfl, Nat.le_of_ble_eq_true rfl⟩ (fun H locs hP hS => ?_)
      obtain ⟨o53, ho53, h⟩ := bnd_some h
      refine call_VJ (wr := [oX4 aW vW, ai cI (aW 5) 7 (vW 5), ai cI (aW 6) 7 (vW 6), ai cI (aW 7) 7 (vW 7), oX2 aS vS]) (As := [.int x2, .int x4, .int o50]) (rest := []) ⟨hx, hb, hml, hown, hts⟩ (c_X3_addSets l G cI cZ aY aW aS vY x2 x4 o50 o53 ho53) (cwV 3 hts gX3_spreadWalk_X3_addSets rfl rfl rfl hdV_X3_addSets ⟨Nat.le_of_ble_eq_true rfl, Nat.le_of_ble_eq_true rfl⟩) hEN hA hP hD hS [0, 1, 2, 3] [4, 5, 6, 7, 8] rfl (by decide) rfl (by decide) (by decide) 0 rfl rfl rfl hl.1 rfl (Nat.le_of_ble_eq_true rfl) dX3_spreadWalk_53 ⟨Nat.le_of_ble_eq_true rfl, Nat.le_of_ble_eq_true rfl⟩ (fun H locs hP hD hS => ?_)
      have hP : va_P G vwCl [oX4 aW vW, ai cI (aW 5) 7 (vW 5), ai cI (aW 6) 7 (vW 6), ai cI (aW 7) 7 (vW 7), oX2 aS vS, oX3 aY aW aS o53, ai cI (aY 3) 427 (o53 3), ai cI (aY 4) 7 (o53 4), ai cI (aY 5) 125 (o53 5)] H := hP
      have hD : va_D A [oX4 aW vW, ai cI (aW 5) 7 (vW 5), ai cI (aW 6) 7 (vW 6), ai cI (aW 7) 7 (vW 7), oX2 aS vS, oX3 aY aW aS o53, ai cI (aY 3) 427 (o53 3), ai cI (aY 4) 7 (o53 4), ai cI (aY 5) 125 (o53 5)] := hD
      refine lv_goto (tgt := 77) hx hb dX3_spreadWalk_56 (by decide) ?_
      have hres := Option.some.inj h
      subst hres
      exact hRet 77 _ _ _ (hP.sub [5, 6, 7, 8, 0, 1, 2, 3, 4] rfl) (hD.sub [5, 6, 7, 8, 0, 1, 2, 3, 4] (by decide) rfl) hS dX3_spreadWalk_77
  · have h := (if_pos c18).symm.trans h
    have hres := Option.some.inj h
    subst hres
    exact hRet 21 _ _ _ hP hD hS dX3_spreadWalk_21
abbrev rm_X3_spreadWalks : Room := { frames := 3, cells := 0, slots := 0, locals := 70 }
theorem fi_X3_spreadWalks_X3 : ∀ w ∈ wsX30, w ∈ wsX3_spreadWalks := fun _ h => List.mem_cons_of_mem _ (List.mem_append_left _ (List.mem_append_left _ (List.mem_append_right _ h)))
theorem fi_X3_spreadWalks_X4 : ∀ w ∈ wsX40, w ∈ wsX3_spreadWalks := fun _ h => List.mem_cons_of_mem _ (List.mem_append_left _ (List.mem_append_right _ h))
theorem fi_X3_spreadWalks_X2 : ∀ w ∈ wsX20, w ∈ wsX3_spreadWalks := fun _ h => List.mem_cons_of_mem _ (List.mem_append_right _ h)
theorem hdV_X3_spreadWalks : yX3_spreadWalks.cls = RX3 ∧ yX3_spreadWalks.cls ≠ "java/lang/invoke/MethodHandle" ∧ yX3_spreadWalks.cls ≠ "java/lang/invoke/VarHandle" ∧ (parseMethodDescriptor yX3_spreadWalks.desc).map (fun d => d.parameters.length) = some 3 := by decide +kernel
set_option maxRecDepth 100000 in
set_option maxHeartbeats 4000000 in
theorem c_X3_spreadWalks (l : Launch) (G : va_G) (cI cZ : ClassId) (aY : Nat → Nat) (aW : Nat → Nat) (aS : Nat → Nat) (vY : Ob) (vW : Ob) (vS : Ob) (x1 : Int32) (x2 : Int32) (x3 : Int32) (res : Ob) (h : m_X3_spreadWalks vY vW vS x1 x2 x3 = some res) : Ct l yX3_spreadWalks wsX3_spreadWalks rm_X3_spreadWalks G cI cZ [.ref (aY 0), .int x1, .int x2, .int x3] [oX3 aY aW aS vY, ai cI (aY 3) 427 (vY 3), ai cI (aY 4) 7 (vY 4), ai cI (aY 5) 125 (vY 5), oX4 aW vW, ai cI (aW 5) 7 (vW 5), ai cI (aW 6) 7 (vW 6), ai cI (aW 7) 7 (vW 7), ai cI (aW 8) 9 (vW 8), ai cI (aW 9) 9 (vW 9), ai cI (aW 10) 9 (vW 10), oX2 aS vS] none [oX3 aY aW aS res, ai cI (aY 3) 427 (res 3), ai cI (aY 4) 7 (res 4), ai cI (aY 5) 125 (res 5), oX4 aW vW, ai cI (aW 5) 7 (vW 5), ai cI (aW 6) 7 (vW 6), ai cI (aW 7) 7 (vW 7), ai cI (aW 8) 9 (vW 8), ai cI (aW 9) 9 (vW 9), ai cI (aW 10) 9 (vW 10), oX2 aS vS] := by
  refine Ct.of_v (maxL := 8) (by decide) rfl (Nat.le_of_ble_eq_true rfl) ?_
  intro p e s m below meth c args hx hb hml hown hts A hA hEN hP hD hS Q hRet ls hl
  have hown : s.vm.findClass RX3 = some m.cls := hown
  have hl : lv_has ls 8 [(0, .ref (aY 0)), (1, .int x1), (2, .int x2), (3, .int x3)] := hl
  have L3 : ∀ (out : Ob), (∀ ex : Ob, out = ex → ∀ (H : Heap) (locs : List Loc) (ls : Array Slot), va_P G vwCl [oX3 aY aW aS ex, ai cI (aY 3) 427 (ex 3), ai cI (aY 4) 7 (ex 4), ai cI (aY 5) 125 (ex 5), oX4 aW vW, ai cI (aW 5) 7 (vW 5), ai cI (aW 6) 7 (vW 6), ai cI (aW 7) 7 (vW 7), ai cI (aW 8) 9 (vW 8), ai cI (aW 9) 9 (vW 9), ai cI (aW 10) 9 (vW 10), oX2 aS vS] H → va_D A [oX3 aY aW aS ex, ai cI (aY 3) 427 (ex 3), ai cI (aY 4) 7 (ex 4), ai cI (aY 5) 125 (ex 5), oX4 aW vW, ai cI (aW 5) 7 (vW 5), ai cI (aW 6) 7 (vW 6), ai cI (aW 7) 7 (vW 7), ai cI (aW 8) 9 (vW 8), ai cI (aW 9) 9 (vW 9), ai cI (aW 10) 9 (vW 10), oX2 aS vS] → va_S A s.heap H locs → lv_has ls 8 [] → W p l e rm_X3_spreadWalks s m args below meth c H locs 0 0 Q (F0 m 99 ls [])) → ∀ (n : Nat) (vY : Ob) (x1 : Int32) (x2 : Int32) (x3 : Int32) (x4 : Int32), m_X3_spreadWalks_L3 vW vS n vY x1 x2 x3 x4 = some out → ∀ (H : Heap) (locs : List Loc) (ls : Array Slot), va_P G vwCl [oX3 aY aW aS vY, ai cI (aY 3) 427 (vY 3), ai cI (aY 4) 7 (vY 4), ai cI (aY 5) 125 (vY 5), oX4 aW vW, ai cI (aW 5) 7 (vW 5), ai cI (aW 6) 7 (vW 6), ai cI (aW 7) 7 (vW 7), ai cI (aW 8) 9 (vW 8), ai cI (aW 9) 9 (vW 9), ai cI (aW 10) 9 (vW 10), oX2 aS vS] H → va_D A [oX3 aY aW aS vY, ai cI (aY 3) 427 (vY 3), ai cI (aY 4) 7 (vY 4), ai cI (aY 5) 125 (vY 5), oX4 aW vW, ai cI (aW 5) 7 (vW 5), ai cI (aW 6) 7 (vW 6), ai cI (aW 7) 7 (vW 7), ai cI (aW 8) 9 (vW 8), ai cI (aW 9) 9 (vW 9), ai cI (aW 10) 9 (vW 10), oX2 aS vS] → va_S A s.heap H locs → lv_has ls 8 [(0, .ref (aY 0)), (1, .int x1), (2, .int x2), (3, .int x3), (4, .int x4)] → W p l e rm_X3_spreadWalks s m args below meth c H locs 0 0 Q (F0 m 3 ls []) := by
    intro out hKx
    have j93 : ∀ (rc : Ob → Int32 → Int32 → Int32 → Int32 → Option (Ob)), (∀ (vY : Ob) (x1 : Int32) (x2 : Int32) (x3 : Int32) (x4 : Int32), rc vY x1 x2 x3 x4 = some out → ∀ (H : Heap) (locs : List Loc) (ls : Array Slot), va_P G vwCl [oX3 aY aW aS vY, ai cI (aY 3) 427 (vY 3), ai cI (aY 4) 7 (vY 4), ai cI (aY 5) 125 (vY 5), oX4 aW vW, ai cI (aW 5) 7 (vW 5), ai cI (aW 6) 7 (vW 6), ai cI (aW 7) 7 (vW 7), ai cI (aW 8) 9 (vW 8), ai cI (aW 9) 9 (vW 9), ai cI (aW 10) 9 (vW 10), oX2 aS vS] H → va_D A [oX3 aY aW aS vY, ai cI (aY 3) 427 (vY 3), ai cI (aY 4) 7 (vY 4), ai cI (aY 5) 125 (vY 5), oX4 aW vW, ai cI (aW 5) 7 (vW 5), ai cI (aW 6) 7 (vW 6), ai cI (aW 7) 7 (vW 7), ai cI (aW 8) 9 (vW 8), ai cI (aW 9) 9 (vW 9), ai cI (aW 10) 9 (vW 10), oX2 aS vS] → va_S A s.heap H locs → lv_has ls 8 [(0, .ref (aY 0)), (1, .int x1), (2, .int x2), (3, .int x3), (4, .int x4)] → W p l e rm_X3_spreadWalks s m args below meth c H locs 0 0 Q (F0 m 3 ls [])) → ∀ (vY : Ob) (x1 : Int32) (x2 : Int32) (x3 : Int32) (x4 : Int32), m_X3_spreadWalks_j93 vW vS rc vY x1 x2 x3 x4 = some out → ∀ (H : Heap) (locs : List Loc) (ls : Array Slot), va_P G vwCl [oX3 aY aW aS vY, ai cI (aY 3) 427 (vY 3), ai cI (aY 4) 7 (vY 4), ai cI (aY 5) 125 (vY 5), oX4 aW vW, ai cI (aW 5) 7 (vW 5), ai cI (aW 6) 7 (vW 6), ai cI (aW 7) 7 (vW 7), ai cI (aW 8) 9 (vW 8), ai cI (aW 9) 9 (vW 9), ai cI (aW 10) 9 (vW 10), oX2 aS vS] H → va_D A [oX3 aY aW aS vY, ai cI (aY 3) 427 (vY 3), ai cI (aY 4) 7 (vY 4), ai cI (aY 5) 125 (vY 5), oX4 aW vW, ai cI (aW 5) 7 (vW 5), ai cI (aW 6) 7 (vW 6), ai cI (aW 7) 7 (vW 7), ai cI (aW 8) 9 (vW 8), ai cI (aW 9) 9 (vW 9), ai cI (aW 10) 9 (vW 10), oX2 aS vS] → va_S A s.heap H locs → lv_has ls 8 [(0, .ref (aY 0)), (1, .int x1), (2, .int x2), (3, .int x3), (4, .int x4)] → W p l e rm_X3_spreadWalks s m args below meth c H locs 0 0 Q (F0 m 93 ls []) := by
      intro rc hrc vY x1 x2 x3 x4 h H locs ls hP hD hS hl
      unfold m_X3_spreadWalks_j93 at h
      refine lv_iinc (v := (x4 + (1 : Int32))) (lv' := [(4, .int (x4 + (1 : Int32))), (0, .ref (aY 0)), (1, .int x1), (2, .int x2), (3, .int x3)]) hx hb dX3_spreadWalks_93 hl (k := 4) rfl (congrArg (fun z => x4 + z) k_iconst_1) (by decide) rfl (fun ls hl => ?_)
      refine lv_goto (tgt := 3) hx hb dX3_spreadWalks_96 (by decide) ?_
      exact hrc vY x1 x2 x3 (x4 + (1 : Int32)) h _ _ _ hP hD hS (lv_sub hl [1, 2, 3, 4, 0] rfl)
    intro n
    induction n with
    | zero => intro vY x1 x2 x3 x4 h; exact nomatch (show (none : Option (Ob)) = some out from h)
    | succ n hrc =>
      intro vY x1 x2 x3 x4 h H locs ls hP hD hS hl
      have h : m_X3_spreadWalks_L3B vW vS (m_X3_spreadWalks_L3 vW vS n) vY x1 x2 x3 x4 = some out := h
      generalize m_X3_spreadWalks_L3 vW vS n = rc at h hrc
      unfold m_X3_spreadWalks_L3B at h
      refine lv_iload hx hb dX3_spreadWalks_3 (lv_at hl 4 rfl) ?_
      refine lv_aload_n hx hb dX3_spreadWalks_5 rfl (lv_at hl 0 rfl) ?_
      refine va_get (D := G) (ci := 3) (v := .ref (aW 0)) (C := RX3) (T := TX3) (N := 14) hx hb hts fi_X3_spreadWalks_X3 hown hEN.1 hP 0 rfl rfl 0 (by decide) (hts (.fieldLink RX3 21 "HourWell$Ways" "world" "LHourWell$World;") (List.mem_of_getElem? (i := 1) rfl)) (fun _ h9 => h9) rfl dX3_spreadWalks_6 ?_
      refine va_get (D := G) (ci := 4) (v := .int (vW 0 1)) (C := RX4) (T := TX4) (N := 13) hx hb hts fi_X3_spreadWalks_X4 hown hEN.1 hP 4 rfl rfl 1 (by decide) (hts (.fieldLink RX3 104 "HourWell$World" "roads" "I") (List.mem_of_getElem? (i := 2) rfl)) (fun _ h9 => h9) rfl dX3_spreadWalks_9 ?_
      refine lv_icmp_ge (tgt := 99) hx hb dX3_spreadWalks_12 (by decide) (fun c12 => ?_) (fun c12 => ?_)
      · have h := (if_pos c12).symm.trans h
        exact hKx _ (Option.some.inj h).symm _ _ _ hP hD hS (lv_sub hl [] rfl)
      · have h := (if_neg c12).symm.trans h
        refine lv_iload hx hb dX3_spreadWalks_15 (lv_at hl 4 rfl) ?_
        refine lv_iload_n hx hb dX3_spreadWalks_17 rfl (lv_at hl 3 rfl) ?_
        refine lv_icmp_ne (tgt := 24) hx hb dX3_spreadWalks_18 (by decide) (fun c18 => ?_) (fun c18 => ?_)
        · have h := (if_neg c18).symm.trans h
          refine lv_aload_n hx hb dX3_spreadWalks_24 rfl (lv_at hl 0 rfl) ?_
          refine va_get (D := G) (ci := 3) (v := .ref (aW 0)) (C := RX3) (T := TX3) (N := 14) hx hb hts fi_X3_spreadWalks_X3 hown hEN.1 hP 0 rfl rfl 0 (by decide) (hts (.fieldLink RX3 21 "HourWell$Ways" "world" "LHourWell$World;") (List.mem_of_getElem? (i := 1) rfl)) (fun _ h9 => h9) rfl dX3_spreadWalks_25 ?_
          refine lv_iload hx hb dX3_spreadWalks_28 (lv_at hl 4 rfl) ?_
          obtain ⟨o30, ho30, h⟩ := bnd_some h
          refine call_V0 (As := [.int x4]) (rest := []) ⟨hx, hb, hml, hown, hts⟩ (c_X4_roadStart l G cI cZ aW vW x4 o30 ho30) (cwV 1 hts gX3_spreadWalks_X4_roadStart rfl rfl rfl hdV_X4_roadStart ⟨Nat.le_of_ble_eq_true rfl, Nat.le_of_ble_eq_true rfl⟩) hEN hA hP hD hS [4, 8] rfl (by decide) 4 rfl rfl rfl hl.1 rfl (Nat.le_of_ble_eq_true rfl) dX3_spreadWalks_30 ⟨Nat.le_of_ble_eq_true rfl, Nat.le_of_ble_eq_true rfl⟩ (fun H locs hP hS => ?_)
          refine lv_istore (lv' := [(5, .int o30), (0, .ref (aY 0)), (1, .int x1), (2, .int x2), (3, .int x3), (4, .int x4)]) hx hb dX3_spreadWalks_33 hl (by decide) rfl (fun ls hl => ?_)
          refine lv_aload_n hx hb dX3_spreadWalks_35 rfl (lv_at hl 1 rfl) ?_
          refine va_get (D := G) (ci := 3) (v := .ref (aW 0)) (C := RX3) (T := TX3) (N := 14) hx hb hts fi_X3_spreadWalks_X3 hown hEN.1 hP 0 rfl rfl 0 (by decide) (hts (.fieldLink RX3 21 "HourWell$Ways" "world" "LHourWell$World;") (List.mem_of_getElem? (i := 1) rfl)) (fun _ h9 => h9) rfl dX3_spreadWalks_36 ?_
          refine lv_iload hx hb dX3_spreadWalks_39 (lv_at hl 5 rfl) ?_
          obtain ⟨o41, ho41, h⟩ := bnd_some h
          refine call_V0 (As := [.int x4]) (rest := []) ⟨hx, hb, hml, hown, hts⟩ (c_X4_roadEnd l G cI cZ aW vW x4 o41 ho41) (cwV 1 hts gX3_spreadWalks_X4_roadEnd rfl rfl rfl hdV_X4_roadEnd ⟨Nat.le_of_ble_eq_true rfl, Nat.le_of_ble_eq_true rfl⟩) hEN hA hP hD hS [4, 9] rfl (by decide) 4 rfl rfl rfl hl.1 rfl (Nat.le_of_ble_eq_true rfl) dX3_spreadWalks_41 ⟨Nat.le_of_ble_eq_true rfl, Nat.le_of_ble_eq_true rfl⟩ (fun H locs hP hS => ?_)
          refine lv_istore (lv' := [(6, .int o41), (5, .int o30), (0, .ref (aY 0)), (1, .int x1), (2, .int x2), (3, .int x3), (4, .int x4)]) hx hb dX3_spreadWalks_44 hl (by decide) rfl (fun ls hl => ?_)
          refine lv_iload_n hx hb dX3_spreadWalks_46 rfl (lv_at hl 3 rfl) ?_
          refine lv_aload_n hx hb dX3_spreadWalks_47 rfl (lv_at hl 2 rfl) ?_
          refine va_get (D := G) (ci := 3) (v := .ref (aW 0)) (C := RX3) (T := TX3) (N := 14) hx hb hts fi_X3_spreadWalks_X3 hown hEN.1 hP 0 rfl rfl 0 (by decide) (hts (.fieldLink RX3 21 "HourWell$Ways" "world" "LHourWell$World;") (List.mem_of_getElem? (i := 1) rfl)) (fun _ h9 => h9) rfl dX3_spreadWalks_48 ?_
          refine lv_iload hx hb dX3_spreadWalks_51 (lv_at hl 6 rfl) ?_
          obtain ⟨o53, ho53, h⟩ := bnd_some h
          refine call_V0 (As := [.int x4]) (rest := [.int x1]) ⟨hx, hb, hml, hown, hts⟩ (c_X4_roadHours l G cI cZ aW vW x4 o53 ho53) (cwV 1 hts gX3_spreadWalks_X4_roadHours rfl rfl rfl hdV_X4_roadHours ⟨Nat.le_of_ble_eq_true rfl, Nat.le_of_ble_eq_true rfl⟩) hEN hA hP hD hS [4, 10] rfl (by decide) 4 rfl rfl rfl hl.1 rfl (Nat.le_of_ble_eq_true rfl) dX3_spreadWalks_53 ⟨Nat.le_of_ble_eq_true rfl, Nat.le_of_ble_eq_true rfl⟩ (fun H locs hP hS => ?_)
          refine lv_iadd hx hb dX3_spreadWalks_56 ?_
          refine lv_istore (lv' := [(7, .int (x1 + o53)), (6, .int o41), (5, .int o30), (0, .ref (aY 0)), (1, .int x1), (2, .int x2), (3, .int x3), (4, .int x4)]) hx hb dX3_spreadWalks_57 hl (by decide) rfl (fun ls hl => ?_)
          refine lv_iload hx hb dX3_spreadWalks_59 (lv_at hl 0 rfl) ?_
          refine lv_bipush (v := (60 : Int32)) hx hb dX3_spreadWalks_61 k_bipush_60 ?_
          refine lv_icmp_le (tgt := 69) hx hb dX3_spreadWalks_63 (by decide) (fun c63 => ?_) (fun c63 => ?_)
          · have h := (if_pos c63).symm.trans h
            refine lv_aload_n hx hb dX3_spreadWalks_69 rfl (lv_at hl 3 rfl) ?_
            refine lv_iload_n hx hb dX3_spreadWalks_70 rfl (lv_at hl 4 rfl) ?_
            refine lv_iload hx hb dX3_spreadWalks_71 (lv_at hl 0 rfl) ?_
            refine lv_iload hx hb dX3_spreadWalks_73 (lv_at hl 2 rfl) ?_
            refine lv_iload hx hb dX3_spreadWalks_75 (lv_at hl 1 rfl) ?_
            refine lv_iload_n hx hb dX3_spreadWalks_77 rfl (lv_at hl 5 rfl) ?_
            obtain ⟨o78, ho78, h⟩ := bnd_some h
            refine call_VJ (wr := [ai cI (aW 8) 9 (vW 8), ai cI (aW 9) 9 (vW 9), ai cI (aW 10) 9 (vW 10)]) (As := [.int x1, .int (x1 + o53), .int o30, .int o41, .int x2]) (rest := []) ⟨hx, hb, hml, hown, hts⟩ (c_X3_spreadWalk l G cI cZ aY aW aS vY vW vS x1 (x1 + o53) o30 o41 x2 o78 ho78) (cwV 5 hts gX3_spreadWalks_X3_spreadWalk rfl rfl rfl hdV_X3_spreadWalk ⟨Nat.le_of_ble_eq_true rfl, Nat.le_of_ble_eq_true rfl⟩) hEN hA hP hD hS [0, 1, 2, 3, 4, 5, 6, 7, 11] [8, 9, 10] rfl (by decide) rfl (by decide) (by decide) 0 rfl rfl rfl hl.1 rfl (Nat.le_of_ble_eq_true rfl) dX3_spreadWalks_78 ⟨Nat.le_of_ble_eq_true rfl, Nat.le_of_ble_eq_true rfl⟩ (fun H locs hP hD hS => ?_)
            have hP : va_P G vwCl [ai cI (aW 8) 9 (vW 8), ai cI (aW 9) 9 (vW 9), ai cI (aW 10) 9 (vW 10), oX3 aY aW aS o78, ai cI (aY 3) 427 (o78 3), ai cI (aY 4) 7 (o78 4), ai cI (aY 5) 125 (o78 5), oX4 aW vW, ai cI (aW 5) 7 (vW 5), ai cI (aW 6) 7 (vW 6), ai cI (aW 7) 7 (vW 7), oX2 aS vS] H := hP
            have hD : va_D A [ai cI (aW 8) 9 (vW 8), ai cI (aW 9) 9 (vW 9), ai cI (aW 10) 9 (vW 10), oX3 aY aW aS o78, ai cI (aY 3) 427 (o78 3), ai cI (aY 4) 7 (o78 4), ai cI (aY 5) 125 (o78 5), oX4 aW vW, ai cI (aW 5) 7 (vW 5), ai cI (aW 6) 7 (vW 6), ai cI (aW 7) 7 (vW 7), oX2 aS vS] := hD
            refine lv_aload_n hx hb dX3_spreadWalks_81 rfl (lv_at hl 3 rfl) ?_
            refine lv_iload_n hx hb dX3_spreadWalks_82 rfl (lv_at hl 4 rfl) ?_
            refine lv_iload hx hb dX3_spreadWalks_83 (lv_at hl 0 rfl) ?_
            refine lv_iload hx hb dX3_spreadWalks_85 (lv_at hl 1 rfl) ?_
            refine lv_iload hx hb dX3_spreadWalks_87 (lv_at hl 2 rfl) ?_
            refine lv_iload_n hx hb dX3_spreadWalks_89 rfl (lv_at hl 5 rfl) ?_
            obtain ⟨o90, ho90, h⟩ := bnd_some h
            refine call_VJ (wr := [ai cI (aW 8) 9 (vW 8), ai cI (aW 9) 9 (vW 9), ai cI (aW 10) 9 (vW 10)]) (As := [.int x1, .int (x1 + o53), .int o41, .int o30, .int x2]) (rest := []) ⟨hx, hb, hml, hown, hts⟩ (c_X3_spreadWalk l G cI cZ aY aW aS o78 vW vS x1 (x1 + o53) o41 o30 x2 o90 ho90) (cwV 5 hts gX3_spreadWalks_X3_spreadWalk rfl rfl rfl hdV_X3_spreadWalk ⟨Nat.le_of_ble_eq_true rfl, Nat.le_of_ble_eq_true rfl⟩) hEN hA hP hD hS [3, 4, 5, 6, 7, 8, 9, 10, 11] [0, 1, 2] rfl (by decide) rfl (by decide) (by decide) 3 rfl rfl rfl hl.1 rfl (Nat.le_of_ble_eq_true rfl) dX3_spreadWalks_90 ⟨Nat.le_of_ble_eq_true rfl, Nat.le_of_ble_eq_true rfl⟩ (fun H locs hP hD hS => ?_)
            have hP : va_P G vwCl [ai cI (aW 8) 9 (vW 8), ai cI (aW 9) 9 (vW 9), ai cI (aW 10) 9 (vW 10), oX3 aY aW aS o90, ai cI (aY 3) 427 (o90 3), ai cI (aY 4) 7 (o90 4), ai cI (aY 5) 125 (o90 5), oX4 aW vW, ai cI (aW 5) 7 (vW 5), ai cI (aW 6) 7 (vW 6), ai cI (aW 7) 7 (vW 7), oX2 aS vS] H := hP
            have hD : va_D A [ai cI (aW 8) 9 (vW 8), ai cI (aW 9) 9 (vW 9), ai cI (aW 10) 9 (vW 10), oX3 aY aW aS o90, ai cI (aY 3) 427 (o90 3), ai cI (aY 4) 7 (o90 4), ai cI (aY 5) 125 (o90 5), oX4 aW vW, ai cI (aW 5) 7 (vW 5), ai cI (aW 6) 7 (vW 6), ai cI (aW 7) 7 (vW 7), oX2 aS vS] := hD
            exact j93 rc hrc o90 x1 x2 x3 x4 h _ _ _ (hP.sub [3, 4, 5, 6, 7, 8, 9, 10, 0, 1, 2, 11] rfl) (hD.sub [3, 4, 5, 6, 7, 8, 9, 10, 0, 1, 2, 11] (by decide) rfl) hS (lv_sub hl [3, 4, 5, 6, 7] rfl)
          · have h := (if_neg c63).symm.trans h
            refine lv_goto (tgt := 93) hx hb dX3_spreadWalks_66 (by decide) ?_
            exact j93 rc hrc vY x1 x2 x3 x4 h _ _ _ hP hD hS (lv_sub hl [3, 4, 5, 6, 7] rfl)
        · have h := (if_pos c18).symm.trans h
          refine lv_goto (tgt := 93) hx hb dX3_spreadWalks_21 (by decide) ?_
          exact j93 rc hrc vY x1 x2 x3 x4 h _ _ _ hP hD hS (lv_sub hl [0, 1, 2, 3, 4] rfl)
  unfold m_X3_spreadWalks at h
  refine lv_iconst (v := (0 : Int32)) hx hb dX3_spreadWalks_0 k_iconst_0 ?_
  refine lv_istore (lv' := [(4, .int (0 : Int32)), (0, .ref (aY 0)), (1, .int x1), (2, .int x2), (3, .int x3)]) hx hb dX3_spreadWalks_1 hl (by decide) rfl (fun ls hl => ?_)
  obtain ⟨o3_1, ho3_1, h⟩ := bnd_some h
  refine L3 o3_1 (fun o3_1e er H locs ls hP hD hS hl => ?_) FU vY x1 x2 x3 (0 : Int32) ho3_1 _ _ _ hP hD hS (lv_sub hl [1, 2, 3, 4, 0] rfl)
  subst er
  have hres := Option.some.inj h
  subst hres
  exact hRet 99 _ _ _ hP hD hS dX3_spreadWalks_99
abbrev rm_X3_fewestHours : Room := { frames := 4, cells := 0, slots := 0, locals := 97 }
theorem fi_X3_fewestHours_X3 : ∀ w ∈ wsX30, w ∈ wsX3_fewestHours := fun _ h => List.mem_cons_of_mem _ (List.mem_append_left _ (List.mem_append_left _ (List.mem_append_right _ h)))
theorem fi_X3_fewestHours_X2 : ∀ w ∈ wsX20, w ∈ wsX3_fewestHours := fun _ h => List.mem_cons_of_mem _ (List.mem_append_left _ (List.mem_append_right _ h))
theorem fi_X3_fewestHours_X4 : ∀ w ∈ wsX40, w ∈ wsX3_fewestHours := fun _ h => List.mem_cons_of_mem _ (List.mem_append_right _ h)
theorem hdV_X3_fewestHours : yX3_fewestHours.cls = RX3 ∧ yX3_fewestHours.cls ≠ "java/lang/invoke/MethodHandle" ∧ yX3_fewestHours.cls ≠ "java/lang/invoke/VarHandle" ∧ (parseMethodDescriptor yX3_fewestHours.desc).map (fun d => d.parameters.length) = some 3 := by decide +kernel
set_option maxRecDepth 100000 in
set_option maxHeartbeats 4000000 in
theorem c_X3_fewestHours (l : Launch) (G : va_G) (cI cZ : ClassId) (aY : Nat → Nat) (aW : Nat → Nat) (aS : Nat → Nat) (vY : Ob) (vW : Ob) (vS : Ob) (x1 : Int32) (x2 : Int32) (x3 : Int32) (res : Int32 × Ob) (h : m_X3_fewestHours vY vW vS x1 x2 x3 = some res) : Ct l yX3_fewestHours wsX3_fewestHours rm_X3_fewestHours G cI cZ [.ref (aY 0), .int x1, .int x2, .int x3] [oX3 aY aW aS vY, ai cI (aY 3) 427 (vY 3), ai cI (aY 4) 7 (vY 4), ai cI (aY 5) 125 (vY 5), oX4 aW vW, ai cI (aW 5) 7 (vW 5), ai cI (aW 6) 7 (vW 6), ai cI (aW 7) 7 (vW 7), ai cI (aW 8) 9 (vW 8), ai cI (aW 9) 9 (vW 9), ai cI (aW 10) 9 (vW 10), ai cI (aW 11) 6 (vW 11), ai cI (aW 12) 6 (vW 12), ai cI (aW 13) 6 (vW 13), oX2 aS vS] (some (.int res.1)) [oX3 aY aW aS res.2, ai cI (aY 3) 427 (res.2 3), ai cI (aY 4) 7 (res.2 4), ai cI (aY 5) 125 (res.2 5), oX4 aW vW, ai cI (aW 5) 7 (vW 5), ai cI (aW 6) 7 (vW 6), ai cI (aW 7) 7 (vW 7), ai cI (aW 8) 9 (vW 8), ai cI (aW 9) 9 (vW 9), ai cI (aW 10) 9 (vW 10), ai cI (aW 11) 6 (vW 11), ai cI (aW 12) 6 (vW 12), ai cI (aW 13) 6 (vW 13), oX2 aS vS] := by
  refine Ct.of_i (maxL := 6) (by decide) rfl (Nat.le_of_ble_eq_true rfl) ?_
  intro p e s m below meth c args hx hb hml hown hts A hA hEN hP hD hS Q hRet ls hl
  have hown : s.vm.findClass RX3 = some m.cls := hown
  have hl : lv_has ls 6 [(0, .ref (aY 0)), (1, .int x1), (2, .int x2), (3, .int x3)] := hl
  have L68 : ∀ (out : Ob × Int32 × Int32 × Int32 × Int32), (∀ ex : Ob × Int32 × Int32 × Int32 × Int32, out = ex → ∀ (H : Heap) (locs : List Loc) (ls : Array Slot), va_P G vwCl [oX3 aY aW aS ex.1, ai cI (aY 3) 427 (ex.1 3), ai cI (aY 4) 7 (ex.1 4), ai cI (aY 5) 125 (ex.1 5), oX4 aW vW, ai cI (aW 5) 7 (vW 5), ai cI (aW 6) 7 (vW 6), ai cI (aW 7) 7 (vW 7), ai cI (aW 8) 9 (vW 8), ai cI (aW 9) 9 (vW 9), ai cI (aW 10) 9 (vW 10), ai cI (aW 11) 6 (vW 11), ai cI (aW 12) 6 (vW 12), ai cI (aW 13) 6 (vW 13), oX2 aS vS] H → va_D A [oX3 aY aW aS ex.1, ai cI (aY 3) 427 (ex.1 3), ai cI (aY 4) 7 (ex.1 4), ai cI (aY 5) 125 (ex.1 5), oX4 aW vW, ai cI (aW 5) 7 (vW 5), ai cI (aW 6) 7 (vW 6), ai cI (aW 7) 7 (vW 7), ai cI (aW 8) 9 (vW 8), ai cI (aW 9) 9 (vW 9), ai cI (aW 10) 9 (vW 10), ai cI (aW 11) 6 (vW 11), ai cI (aW 12) 6 (vW 12), ai cI (aW 13) 6 (vW 13), oX2 aS vS] → va_S A s.heap H locs → lv_has ls 6 [(0, .ref (aY 0)), (1, .int ex.2.1), (2, .int ex.2.2.1), (3, .int ex.2.2.2.1), (4, .int ex.2.2.2.2)] → W p l e rm_X3_fewestHours s m args below meth c H locs 0 0 Q (F0 m 104 ls [])) → ∀ (n : Nat) (vY : Ob) (x1 : Int32) (x2 : Int32) (x3 : Int32) (x4 : Int32) (x5 : Int32), m_X3_fewestHours_L68 vW vS n vY x1 x2 x3 x4 x5 = some out → ∀ (H : Heap) (locs : List Loc) (ls : Array Slot), va_P G vwCl [oX3 aY aW aS vY, ai cI (aY 3) 427 (vY 3), ai cI (aY 4) 7 (vY 4), ai cI (aY 5) 125 (vY 5), oX4 aW vW, ai cI (aW 5) 7 (vW 5), ai cI (aW 6) 7 (vW 6), ai cI (aW 7) 7 (vW 7), ai cI (aW 8) 9 (vW 8), ai cI (aW 9) 9 (vW 9), ai cI (aW 10) 9 (vW 10), ai cI (aW 11) 6 (vW 11), ai cI (aW 12) 6 (vW 12), ai cI (aW 13) 6 (vW 13), oX2 aS vS] H → va_D A [oX3 aY aW aS vY, ai cI (aY 3) 427 (vY 3), ai cI (aY 4) 7 (vY 4), ai cI (aY 5) 125 (vY 5), oX4 aW vW, ai cI (aW 5) 7 (vW 5), ai cI (aW 6) 7 (vW 6), ai cI (aW 7) 7 (vW 7), ai cI (aW 8) 9 (vW 8), ai cI (aW 9) 9 (vW 9), ai cI (aW 10) 9 (vW 10), ai cI (aW 11) 6 (vW 11), ai cI (aW 12) 6 (vW 12), ai cI (aW 13) 6 (vW 13), oX2 aS vS] → va_S A s.heap H locs → lv_has ls 6 [(0, .ref (aY 0)), (1, .int x1), (2, .int x2), (3, .int x3), (4, .int x4), (5, .int x5)] → W p l e rm_X3_fewestHours s m args below meth c H locs 0 0 Q (F0 m 68 ls []) := by
    intro out hKx
    intro n
    induction n with
    | zero => intro vY x1 x2 x3 x4 x5 h; exact nomatch (show (none : Option (Ob × Int32 × Int32 × Int32 × Int32)) = some out from h)
    | succ n hrc =>
      intro vY x1 x2 x3 x4 x5 h H locs ls hP hD hS hl
      have h : m_X3_fewestHours_L68B vW vS (m_X3_fewestHours_L68 vW vS n) vY x1 x2 x3 x4 x5 = some out := h
      generalize m_X3_fewestHours_L68 vW vS n = rc at h hrc
      unfold m_X3_fewestHours_L68B at h
      refine lv_iload hx hb dX3_fewestHours_68 (lv_at hl 5 rfl) ?_
      refine lv_aload_n hx hb dX3_fewestHours_70 rfl (lv_at hl 0 rfl) ?_
      refine va_get (D := G) (ci := 3) (v := .ref (aW 0)) (C := RX3) (T := TX3) (N := 14) hx hb hts fi_X3_fewestHours_X3 hown hEN.1 hP 0 rfl rfl 0 (by decide) (hts (.fieldLink RX3 21 "HourWell$Ways" "world" "LHourWell$World;") (List.mem_of_getElem? (i := 5) rfl)) (fun _ h9 => h9) rfl dX3_fewestHours_71 ?_
      refine va_get (D := G) (ci := 4) (v := .int (vW 0 0)) (C := RX4) (T := TX4) (N := 13) hx hb hts fi_X3_fewestHours_X4 hown hEN.1 hP 4 rfl rfl 0 (by decide) (hts (.fieldLink RX3 133 "HourWell$World" "places" "I") (List.mem_of_getElem? (i := 6) rfl)) (fun _ h9 => h9) rfl dX3_fewestHours_74 ?_
      refine lv_icmp_ge (tgt := 104) hx hb dX3_fewestHours_77 (by decide) (fun c77 => ?_) (fun c77 => ?_)
      · have h := (if_pos c77).symm.trans h
        exact hKx _ (Option.some.inj h).symm _ _ _ hP hD hS (lv_sub hl [0, 1, 2, 3, 4] rfl)
      · have h := (if_neg c77).symm.trans h
        refine lv_aload_n hx hb dX3_fewestHours_80 rfl (lv_at hl 0 rfl) ?_
        refine lv_iload hx hb dX3_fewestHours_81 (lv_at hl 4 rfl) ?_
        refine lv_iconst (v := (1 : Int32)) hx hb dX3_fewestHours_83 k_iconst_1 ?_
        refine lv_iadd hx hb dX3_fewestHours_84 ?_
        refine lv_iload hx hb dX3_fewestHours_85 (lv_at hl 5 rfl) ?_
        refine lv_aload_n hx hb dX3_fewestHours_87 rfl (lv_at hl 0 rfl) ?_
        refine lv_iload hx hb dX3_fewestHours_88 (lv_at hl 4 rfl) ?_
        refine lv_iload hx hb dX3_fewestHours_90 (lv_at hl 5 rfl) ?_
        obtain ⟨o92, ho92, h⟩ := bnd_some h
        refine call_V0 (As := [.int x4, .int x5]) (rest := [.int x5, .int (x4 + (1 : Int32)), .ref (aY 0)]) ⟨hx, hb, hml, hown, hts⟩ (c_X3_setsAt l G cI cZ aY aW aS vY x4 x5 o92 ho92) (cwV 2 hts gX3_fewestHours_X3_setsAt rfl rfl rfl hdV_X3_setsAt ⟨Nat.le_of_ble_eq_true rfl, Nat.le_of_ble_eq_true rfl⟩) hEN hA hP hD hS [0, 1] rfl (by decide) 0 rfl rfl rfl hl.1 rfl (Nat.le_of_ble_eq_true rfl) dX3_fewestHours_92 ⟨Nat.le_of_ble_eq_true rfl, Nat.le_of_ble_eq_true rfl⟩ (fun H locs hP hS => ?_)
        obtain ⟨o95, ho95, h⟩ := bnd_some h
        refine call_VJ (wr := [oX4 aW vW, ai cI (aW 5) 7 (vW 5), ai cI (aW 6) 7 (vW 6), ai cI (aW 7) 7 (vW 7), ai cI (aW 8) 9 (vW 8), ai cI (aW 9) 9 (vW 9), ai cI (aW 10) 9 (vW 10), ai cI (aW 11) 6 (vW 11), ai cI (aW 12) 6 (vW 12), ai cI (aW 13) 6 (vW 13), oX2 aS vS]) (As := [.int (x4 + (1 : Int32)), .int x5, .int o92]) (rest := []) ⟨hx, hb, hml, hown, hts⟩ (c_X3_addSets l G cI cZ aY aW aS vY (x4 + (1 : Int32)) x5 o92 o95 ho95) (cwV 3 hts gX3_fewestHours_X3_addSets rfl rfl rfl hdV_X3_addSets ⟨Nat.le_of_ble_eq_true rfl, Nat.le_of_ble_eq_true rfl⟩) hEN hA hP hD hS [0, 1, 2, 3] [4, 5, 6, 7, 8, 9, 10, 11, 12, 13, 14] rfl (by decide) rfl (by decide) (by decide) 0 rfl rfl rfl hl.1 rfl (Nat.le_of_ble_eq_true rfl) dX3_fewestHours_95 ⟨Nat.le_of_ble_eq_true rfl, Nat.le_of_ble_eq_true rfl⟩ (fun H locs hP hD hS => ?_)
        have hP : va_P G vwCl [oX4 aW vW, ai cI (aW 5) 7 (vW 5), ai cI (aW 6) 7 (vW 6), ai cI (aW 7) 7 (vW 7), ai cI (aW 8) 9 (vW 8), ai cI (aW 9) 9 (vW 9), ai cI (aW 10) 9 (vW 10), ai cI (aW 11) 6 (vW 11), ai cI (aW 12) 6 (vW 12), ai cI (aW 13) 6 (vW 13), oX2 aS vS, oX3 aY aW aS o95, ai cI (aY 3) 427 (o95 3), ai cI (aY 4) 7 (o95 4), ai cI (aY 5) 125 (o95 5)] H := hP
        have hD : va_D A [oX4 aW vW, ai cI (aW 5) 7 (vW 5), ai cI (aW 6) 7 (vW 6), ai cI (aW 7) 7 (vW 7), ai cI (aW 8) 9 (vW 8), ai cI (aW 9) 9 (vW 9), ai cI (aW 10) 9 (vW 10), ai cI (aW 11) 6 (vW 11), ai cI (aW 12) 6 (vW 12), ai cI (aW 13) 6 (vW 13), oX2 aS vS, oX3 aY aW aS o95, ai cI (aY 3) 427 (o95 3), ai cI (aY 4) 7 (o95 4), ai cI (aY 5) 125 (o95 5)] := hD
        refine lv_iinc (v := (x5 + (1 : Int32))) (lv' := [(5, .int (x5 + (1 : Int32))), (0, .ref (aY 0)), (1, .int x1), (2, .int x2), (3, .int x3), (4, .int x4)]) hx hb dX3_fewestHours_98 hl (k := 5) rfl (congrArg (fun z => x5 + z) k_iconst_1) (by decide) rfl (fun ls hl => ?_)
        refine lv_goto (tgt := 68) hx hb dX3_fewestHours_101 (by decide) ?_
        exact hrc o95 x1 x2 x3 x4 (x5 + (1 : Int32)) h _ _ _ (hP.sub [11, 12, 13, 14, 0, 1, 2, 3, 4, 5, 6, 7, 8, 9, 10] rfl) (hD.sub [11, 12, 13, 14, 0, 1, 2, 3, 4, 5, 6, 7, 8, 9, 10] (by decide) rfl) hS (lv_sub hl [1, 2, 3, 4, 5, 0] rfl)
  have L32 : ∀ (out : (Int32 × Ob) ⊕ (Ob)), (∀ r : Int32 × Ob, out = Sum.inl r → r = res) → (∀ ex : Ob, out = Sum.inr ex → ∀ (H : Heap) (locs : List Loc) (ls : Array Slot), va_P G vwCl [oX3 aY aW aS ex, ai cI (aY 3) 427 (ex 3), ai cI (aY 4) 7 (ex 4), ai cI (aY 5) 125 (ex 5), oX4 aW vW, ai cI (aW 5) 7 (vW 5), ai cI (aW 6) 7 (vW 6), ai cI (aW 7) 7 (vW 7), ai cI (aW 8) 9 (vW 8), ai cI (aW 9) 9 (vW 9), ai cI (aW 10) 9 (vW 10), ai cI (aW 11) 6 (vW 11), ai cI (aW 12) 6 (vW 12), ai cI (aW 13) 6 (vW 13), oX2 aS vS] H → va_D A [oX3 aY aW aS ex, ai cI (aY 3) 427 (ex 3), ai cI (aY 4) 7 (ex 4), ai cI (aY 5) 125 (ex 5), oX4 aW vW, ai cI (aW 5) 7 (vW 5), ai cI (aW 6) 7 (vW 6), ai cI (aW 7) 7 (vW 7), ai cI (aW 8) 9 (vW 8), ai cI (aW 9) 9 (vW 9), ai cI (aW 10) 9 (vW 10), ai cI (aW 11) 6 (vW 11), ai cI (aW 12) 6 (vW 12), ai cI (aW 13) 6 (vW 13), oX2 aS vS] → va_S A s.heap H locs → lv_has ls 6 [] → W p l e rm_X3_fewestHours s m args below meth c H locs 0 0 Q (F0 m 118 ls [])) → ∀ (n : Nat) (vY : Ob) (x1 : Int32) (x2 : Int32) (x3 : Int32) (x4 : Int32), m_X3_fewestHours_L32 vW vS n vY x1 x2 x3 x4 = some out → ∀ (H : Heap) (locs : List Loc) (ls : Array Slot), va_P G vwCl [oX3 aY aW aS vY, ai cI (aY 3) 427 (vY 3), ai cI (aY 4) 7 (vY 4), ai cI (aY 5) 125 (vY 5), oX4 aW vW, ai cI (aW 5) 7 (vW 5), ai cI (aW 6) 7 (vW 6), ai cI (aW 7) 7 (vW 7), ai cI (aW 8) 9 (vW 8), ai cI (aW 9) 9 (vW 9), ai cI (aW 10) 9 (vW 10), ai cI (aW 11) 6 (vW 11), ai cI (aW 12) 6 (vW 12), ai cI (aW 13) 6 (vW 13), oX2 aS vS] H → va_D A [oX3 aY aW aS vY, ai cI (aY 3) 427 (vY 3), ai cI (aY 4) 7 (vY 4), ai cI (aY 5) 125 (vY 5), oX4 aW vW, ai cI (aW 5) 7 (vW 5), ai cI (aW 6) 7 (vW 6), ai cI (aW 7) 7 (vW 7), ai cI (aW 8) 9 (vW 8), ai cI (aW 9) 9 (vW 9), ai cI (aW 10) 9 (vW 10), ai cI (aW 11) 6 (vW 11), ai cI (aW 12) 6 (vW 12), ai cI (aW 13) 6 (vW 13), oX2 aS vS] → va_S A s.heap H locs → lv_has ls 6 [(0, .ref (aY 0)), (1, .int x1), (2, .int x2), (3, .int x3), (4, .int x4)] → W p l e rm_X3_fewestHours s m args below meth c H locs 0 0 Q (F0 m 32 ls []) := by
    intro out hKr hKx
    intro n
    induction n with
    | zero => intro vY x1 x2 x3 x4 h; exact nomatch (show (none : Option ((Int32 × Ob) ⊕ (Ob))) = some out from h)
    | succ n hrc =>
      intro vY x1 x2 x3 x4 h H locs ls hP hD hS hl
      have h : m_X3_fewestHours_L32B vW vS (m_X3_fewestHours_L32 vW vS n) vY x1 x2 x3 x4 = some out := h
      generalize m_X3_fewestHours_L32 vW vS n = rc at h hrc
      unfold m_X3_fewestHours_L32B at h
      refine lv_iload hx hb dX3_fewestHours_32 (lv_at hl 4 rfl) ?_
      refine lv_bipush (v := (60 : Int32)) hx hb dX3_fewestHours_34 k_bipush_60 ?_
      refine lv_icmp_gt (tgt := 118) hx hb dX3_fewestHours_36 (by decide) (fun c36 => ?_) (fun c36 => ?_)
      · have h := (if_pos c36).symm.trans h
        exact hKx _ (Option.some.inj h).symm _ _ _ hP hD hS (lv_sub hl [] rfl)
      · have h := (if_neg c36).symm.trans h
        refine lv_aload_n hx hb dX3_fewestHours_39 rfl (lv_at hl 0 rfl) ?_
        refine lv_iload hx hb dX3_fewestHours_40 (lv_at hl 4 rfl) ?_
        refine lv_iconst (v := (1 : Int32)) hx hb dX3_fewestHours_42 k_iconst_1 ?_
        refine lv_iload_n hx hb dX3_fewestHours_43 rfl (lv_at hl 3 rfl) ?_
        obtain ⟨o44, ho44, h⟩ := bnd_some h
        refine call_VJ (wr := [ai cI (aW 5) 7 (vW 5), ai cI (aW 6) 7 (vW 6), ai cI (aW 7) 7 (vW 7), ai cI (aW 8) 9 (vW 8), ai cI (aW 9) 9 (vW 9), ai cI (aW 10) 9 (vW 10), oX2 aS vS]) (As := [.int x4, .int (1 : Int32), .int x3]) (rest := []) ⟨hx, hb, hml, hown, hts⟩ (c_X3_spreadAsks l G cI cZ aY aW aS vY vW x4 (1 : Int32) x3 o44 ho44) (cwV 3 hts gX3_fewestHours_X3_spreadAsks rfl rfl rfl hdV_X3_spreadAsks ⟨Nat.le_of_ble_eq_true rfl, Nat.le_of_ble_eq_true rfl⟩) hEN hA hP hD hS [0, 1, 2, 3, 4, 11, 12, 13] [5, 6, 7, 8, 9, 10, 14] rfl (by decide) rfl (by decide) (by decide) 0 rfl rfl rfl hl.1 rfl (Nat.le_of_ble_eq_true rfl) dX3_fewestHours_44 ⟨Nat.le_of_ble_eq_true rfl, Nat.le_of_ble_eq_true rfl⟩ (fun H locs hP hD hS => ?_)
        have hP : va_P G vwCl [ai cI (aW 5) 7 (vW 5), ai cI (aW 6) 7 (vW 6), ai cI (aW 7) 7 (vW 7), ai cI (aW 8) 9 (vW 8), ai cI (aW 9) 9 (vW 9), ai cI (aW 10) 9 (vW 10), oX2 aS vS, oX3 aY aW aS o44, ai cI (aY 3) 427 (o44 3), ai cI (aY 4) 7 (o44 4), ai cI (aY 5) 125 (o44 5), oX4 aW vW, ai cI (aW 11) 6 (vW 11), ai cI (aW 12) 6 (vW 12), ai cI (aW 13) 6 (vW 13)] H := hP
        have hD : va_D A [ai cI (aW 5) 7 (vW 5), ai cI (aW 6) 7 (vW 6), ai cI (aW 7) 7 (vW 7), ai cI (aW 8) 9 (vW 8), ai cI (aW 9) 9 (vW 9), ai cI (aW 10) 9 (vW 10), oX2 aS vS, oX3 aY aW aS o44, ai cI (aY 3) 427 (o44 3), ai cI (aY 4) 7 (o44 4), ai cI (aY 5) 125 (o44 5), oX4 aW vW, ai cI (aW 11) 6 (vW 11), ai cI (aW 12) 6 (vW 12), ai cI (aW 13) 6 (vW 13)] := hD
        refine lv_aload_n hx hb dX3_fewestHours_47 rfl (lv_at hl 0 rfl) ?_
        refine lv_iload hx hb dX3_fewestHours_48 (lv_at hl 4 rfl) ?_
        refine lv_iconst (v := (0 : Int32)) hx hb dX3_fewestHours_50 k_iconst_0 ?_
        obtain ⟨o51, ho51, h⟩ := bnd_some h
        refine call_V0 (As := [.int x4, .int (0 : Int32)]) (rest := []) ⟨hx, hb, hml, hown, hts⟩ (c_X3_setsAt l G cI cZ aY aW aS o44 x4 (0 : Int32) o51 ho51) (cwV 2 hts gX3_fewestHours_X3_setsAt rfl rfl rfl hdV_X3_setsAt ⟨Nat.le_of_ble_eq_true rfl, Nat.le_of_ble_eq_true rfl⟩) hEN hA hP hD hS [7, 8] rfl (by decide) 7 rfl rfl rfl hl.1 rfl (Nat.le_of_ble_eq_true rfl) dX3_fewestHours_51 ⟨Nat.le_of_ble_eq_true rfl, Nat.le_of_ble_eq_true rfl⟩ (fun H locs hP hS => ?_)
        refine lv_iload_n hx hb dX3_fewestHours_54 rfl (lv_at hl 1 rfl) ?_
        obtain ⟨o55, ho55, h⟩ := bnd_some h
        refine call_S0 (As := [.int x1]) (rest := [.int o51]) ⟨hx, hb, hml, hown, hts⟩ (c_X3_setsHaving l G cI cZ  x1 o55 ho55) (va_cwS 1 hts gX3_fewestHours_X3_setsHaving rfl rfl rfl hdS_X3_setsHaving ⟨Nat.le_of_ble_eq_true rfl, Nat.le_of_ble_eq_true rfl⟩) hEN hA hP hD hS [] rfl (by decide) rfl hl.1 rfl (Nat.le_of_ble_eq_true rfl) dX3_fewestHours_55 ⟨Nat.le_of_ble_eq_true rfl, Nat.le_of_ble_eq_true rfl⟩ (fun H locs hP hS => ?_)
        refine lv_iand hx hb dX3_fewestHours_58 ?_
        refine lv_if_eq (tgt := 65) hx hb dX3_fewestHours_59 (by decide) (fun c59 => ?_) (fun c59 => ?_)
        · have h := (if_pos c59).symm.trans h
          refine lv_iconst (v := (0 : Int32)) hx hb dX3_fewestHours_65 k_iconst_0 ?_
          refine lv_istore (lv' := [(5, .int (0 : Int32)), (0, .ref (aY 0)), (1, .int x1), (2, .int x2), (3, .int x3), (4, .int x4)]) hx hb dX3_fewestHours_66 hl (by decide) rfl (fun ls hl => ?_)
          obtain ⟨o68_1, ho68_1, h⟩ := bnd_some h
          refine L68 o68_1 (fun o68_1e er H locs ls hP hD hS hl => ?_) FU o44 x1 x2 x3 x4 (0 : Int32) ho68_1 _ _ _ (hP.sub [7, 8, 9, 10, 11, 0, 1, 2, 3, 4, 5, 12, 13, 14, 6] rfl) (hD.sub [7, 8, 9, 10, 11, 0, 1, 2, 3, 4, 5, 12, 13, 14, 6] (by decide) rfl) hS (lv_sub hl [1, 2, 3, 4, 5, 0] rfl)
          subst er
          refine lv_aload_n hx hb dX3_fewestHours_104 rfl (lv_at hl 0 rfl) ?_
          refine lv_iload hx hb dX3_fewestHours_105 (lv_at hl 4 rfl) ?_
          refine lv_iconst (v := (1 : Int32)) hx hb dX3_fewestHours_107 k_iconst_1 ?_
          refine lv_iload_n hx hb dX3_fewestHours_108 rfl (lv_at hl 2 rfl) ?_
          obtain ⟨o109, ho109, h⟩ := bnd_some h
          refine call_VJ (wr := [ai cI (aW 11) 6 (vW 11), ai cI (aW 12) 6 (vW 12), ai cI (aW 13) 6 (vW 13)]) (As := [.int o68_1.2.2.2.2, .int (1 : Int32), .int o68_1.2.2.1]) (rest := []) ⟨hx, hb, hml, hown, hts⟩ (c_X3_spreadWalks l G cI cZ aY aW aS o68_1.1 vW vS o68_1.2.2.2.2 (1 : Int32) o68_1.2.2.1 o109 ho109) (cwV 3 hts gX3_fewestHours_X3_spreadWalks rfl rfl rfl hdV_X3_spreadWalks ⟨Nat.le_of_ble_eq_true rfl, Nat.le_of_ble_eq_true rfl⟩) hEN hA hP hD hS [0, 1, 2, 3, 4, 5, 6, 7, 8, 9, 10, 14] [11, 12, 13] rfl (by decide) rfl (by decide) (by decide) 0 rfl rfl rfl hl.1 rfl (Nat.le_of_ble_eq_true rfl) dX3_fewestHours_109 ⟨Nat.le_of_ble_eq_true rfl, Nat.le_of_ble_eq_true rfl⟩ (fun H locs hP hD hS => ?_)
          have hP : va_P G vwCl [ai cI (aW 11) 6 (vW 11), ai cI (aW 12) 6 (vW 12), ai cI (aW 13) 6 (vW 13), oX3 aY aW aS o109, ai cI (aY 3) 427 (o109 3), ai cI (aY 4) 7 (o109 4), ai cI (aY 5) 125 (o109 5), oX4 aW vW, ai cI (aW 5) 7 (vW 5), ai cI (aW 6) 7 (vW 6), ai cI (aW 7) 7 (vW 7), ai cI (aW 8) 9 (vW 8), ai cI (aW 9) 9 (vW 9), ai cI (aW 10) 9 (vW 10), oX2 aS vS] H := hP
          have hD : va_D A [ai cI (aW 11) 6 (vW 11), ai cI (aW 12) 6 (vW 12), ai cI (aW 13) 6 (vW 13), oX3 aY aW aS o109, ai cI (aY 3) 427 (o109 3), ai cI (aY 4) 7 (o109 4), ai cI (aY 5) 125 (o109 5), oX4 aW vW, ai cI (aW 5) 7 (vW 5), ai cI (aW 6) 7 (vW 6), ai cI (aW 7) 7 (vW 7), ai cI (aW 8) 9 (vW 8), ai cI (aW 9) 9 (vW 9), ai cI (aW 10) 9 (vW 10), oX2 aS vS] := hD
          refine lv_iinc (v := (o68_1.2.2.2.2 + (1 : Int32))) (lv' := [(4, .int (o68_1.2.2.2.2 + (1 : Int32))), (0, .ref (aY 0)), (1, .int o68_1.2.1), (2, .int o68_1.2.2.1), (3, .int o68_1.2.2.2.1)]) hx hb dX3_fewestHours_112 hl (k := 4) rfl (congrArg (fun z => o68_1.2.2.2.2 + z) k_iconst_1) (by decide) rfl (fun ls hl => ?_)
          refine lv_goto (tgt := 32) hx hb dX3_fewestHours_115 (by decide) ?_
          exact hrc o109 o68_1.2.1 o68_1.2.2.1 o68_1.2.2.2.1 (o68_1.2.2.2.2 + (1 : Int32)) h _ _ _ (hP.sub [3, 4, 5, 6, 7, 8, 9, 10, 11, 12, 13, 0, 1, 2, 14] rfl) (hD.sub [3, 4, 5, 6, 7, 8, 9, 10, 11, 12, 13, 0, 1, 2, 14] (by decide) rfl) hS (lv_sub hl [1, 2, 3, 4, 0] rfl)
        · have h := (if_neg c59).symm.trans h
          refine lv_iload hx hb dX3_fewestHours_62 (lv_at hl 4 rfl) ?_
          have hres := hKr _ (Option.some.inj h).symm
          subst hres
          exact hRet 64 _ _ _ (hP.sub [7, 8, 9, 10, 11, 0, 1, 2, 3, 4, 5, 12, 13, 14, 6] rfl) (hD.sub [7, 8, 9, 10, 11, 0, 1, 2, 3, 4, 5, 12, 13, 14, 6] (by decide) rfl) hS dX3_fewestHours_64
  unfold m_X3_fewestHours at h
  refine lv_aload_n hx hb dX3_fewestHours_0 rfl (lv_at hl 0 rfl) ?_
  refine va_get (D := G) (ci := 3) (v := .ref (aY 3)) (C := RX3) (T := TX3) (N := 14) hx hb hts fi_X3_fewestHours_X3 hown hEN.1 hP 0 rfl rfl 2 (by decide) (hts (.fieldLink RX3 9 "HourWell$Ways" "table" "[I") (List.mem_of_getElem? (i := 1) rfl)) (fun _ h9 => h9) rfl dX3_fewestHours_1 ?_
  refine lv_iconst (v := (0 : Int32)) hx hb dX3_fewestHours_4 k_iconst_0 ?_
  obtain ⟨o5, ho5, h⟩ := bnd_some h
  refine call_SJ (wr := [oX3 aY aW aS vY, ai cI (aY 4) 7 (vY 4), ai cI (aY 5) 125 (vY 5), oX4 aW vW, ai cI (aW 5) 7 (vW 5), ai cI (aW 6) 7 (vW 6), ai cI (aW 7) 7 (vW 7), ai cI (aW 8) 9 (vW 8), ai cI (aW 9) 9 (vW 9), ai cI (aW 10) 9 (vW 10), ai cI (aW 11) 6 (vW 11), ai cI (aW 12) 6 (vW 12), ai cI (aW 13) 6 (vW 13), oX2 aS vS]) (As := [.ref (aY 3), .int (0 : Int32)]) (rest := []) ⟨hx, hb, hml, hown, hts⟩ (c_J7_fill_53178 l G cI cZ (aY 3) (vY 3) (0 : Int32) o5 ho5) (va_cwS 2 hts gX3_fewestHours_J7_fill_53178 rfl rfl rfl hdS_J7_fill_53178 ⟨Nat.le_of_ble_eq_true rfl, Nat.le_of_ble_eq_true rfl⟩) hEN hA hP hD hS [1] [0, 2, 3, 4, 5, 6, 7, 8, 9, 10, 11, 12, 13, 14] rfl (by decide) rfl (by decide) (by decide) rfl hl.1 rfl (Nat.le_of_ble_eq_true rfl) dX3_fewestHours_5 ⟨Nat.le_of_ble_eq_true rfl, Nat.le_of_ble_eq_true rfl⟩ (fun H locs hP hD hS => ?_)
  have hP : va_P G vwCl [oX3 aY aW aS vY, ai cI (aY 4) 7 (vY 4), ai cI (aY 5) 125 (vY 5), oX4 aW vW, ai cI (aW 5) 7 (vW 5), ai cI (aW 6) 7 (vW 6), ai cI (aW 7) 7 (vW 7), ai cI (aW 8) 9 (vW 8), ai cI (aW 9) 9 (vW 9), ai cI (aW 10) 9 (vW 10), ai cI (aW 11) 6 (vW 11), ai cI (aW 12) 6 (vW 12), ai cI (aW 13) 6 (vW 13), oX2 aS vS, ai cI (aY 3) 427 o5] H := hP
  have hD : va_D A [oX3 aY aW aS vY, ai cI (aY 4) 7 (vY 4), ai cI (aY 5) 125 (vY 5), oX4 aW vW, ai cI (aW 5) 7 (vW 5), ai cI (aW 6) 7 (vW 6), ai cI (aW 7) 7 (vW 7), ai cI (aW 8) 9 (vW 8), ai cI (aW 9) 9 (vW 9), ai cI (aW 10) 9 (vW 10), ai cI (aW 11) 6 (vW 11), ai cI (aW 12) 6 (vW 12), ai cI (aW 13) 6 (vW 13), oX2 aS vS, ai cI (aY 3) 427 o5] := hD
  refine lv_aload_n hx hb dX3_fewestHours_8 rfl (lv_at hl 0 rfl) ?_
  refine lv_iconst (v := (0 : Int32)) hx hb dX3_fewestHours_9 k_iconst_0 ?_
  refine lv_aload_n hx hb dX3_fewestHours_10 rfl (lv_at hl 0 rfl) ?_
  refine va_get (D := G) (ci := 3) (v := .ref (aS 0)) (C := RX3) (T := TX3) (N := 14) hx hb hts fi_X3_fewestHours_X3 hown hEN.1 hP 0 rfl rfl 1 (by decide) (hts (.fieldLink RX3 25 "HourWell$Ways" "son" "LHourWell$Son;") (List.mem_of_getElem? (i := 2) rfl)) (fun _ h9 => h9) rfl dX3_fewestHours_11 ?_
  refine va_get (D := G) (ci := 2) (v := .int (vS 0 0)) (C := RX2) (T := TX2) (N := 8) hx hb hts fi_X3_fewestHours_X2 hown hEN.1 hP 13 rfl rfl 0 (by decide) (hts (.fieldLink RX3 37 "HourWell$Son" "place" "I") (List.mem_of_getElem? (i := 3) rfl)) (fun _ h9 => h9) rfl dX3_fewestHours_14 ?_
  refine lv_iconst (v := (1 : Int32)) hx hb dX3_fewestHours_17 k_iconst_1 ?_
  refine lv_aload_n hx hb dX3_fewestHours_18 rfl (lv_at hl 0 rfl) ?_
  refine va_get (D := G) (ci := 3) (v := .ref (aS 0)) (C := RX3) (T := TX3) (N := 14) hx hb hts fi_X3_fewestHours_X3 hown hEN.1 hP 0 rfl rfl 1 (by decide) (hts (.fieldLink RX3 25 "HourWell$Ways" "son" "LHourWell$Son;") (List.mem_of_getElem? (i := 2) rfl)) (fun _ h9 => h9) rfl dX3_fewestHours_19 ?_
  refine va_get (D := G) (ci := 2) (v := .int (vS 0 2)) (C := RX2) (T := TX2) (N := 8) hx hb hts fi_X3_fewestHours_X2 hown hEN.1 hP 13 rfl rfl 2 (by decide) (hts (.fieldLink RX3 51 "HourWell$Son" "things" "I") (List.mem_of_getElem? (i := 4) rfl)) (fun _ h9 => h9) rfl dX3_fewestHours_22 ?_
  refine lv_ishl hx hb dX3_fewestHours_25 ?_
  obtain ⟨o26, ho26, h⟩ := bnd_some h
  refine call_VJ (wr := [oX4 aW vW, ai cI (aW 5) 7 (vW 5), ai cI (aW 6) 7 (vW 6), ai cI (aW 7) 7 (vW 7), ai cI (aW 8) 9 (vW 8), ai cI (aW 9) 9 (vW 9), ai cI (aW 10) 9 (vW 10), ai cI (aW 11) 6 (vW 11), ai cI (aW 12) 6 (vW 12), ai cI (aW 13) 6 (vW 13), oX2 aS vS]) (As := [.int (0 : Int32), .int (vS 0 0), .int ((1 : Int32) <<< ((vS 0 2) &&& 31))]) (rest := []) ⟨hx, hb, hml, hown, hts⟩ (c_X3_addSets l G cI cZ aY aW aS (upR vY 3 o5) (0 : Int32) (vS 0 0) ((1 : Int32) <<< ((vS 0 2) &&& 31)) o26 ho26) (cwV 3 hts gX3_fewestHours_X3_addSets rfl rfl rfl hdV_X3_addSets ⟨Nat.le_of_ble_eq_true rfl, Nat.le_of_ble_eq_true rfl⟩) hEN hA hP hD hS [0, 14, 1, 2] [3, 4, 5, 6, 7, 8, 9, 10, 11, 12, 13] rfl (by decide) rfl (by decide) (by decide) 0 rfl rfl rfl hl.1 rfl (Nat.le_of_ble_eq_true rfl) dX3_fewestHours_26 ⟨Nat.le_of_ble_eq_true rfl, Nat.le_of_ble_eq_true rfl⟩ (fun H locs hP hD hS => ?_)
  have hP : va_P G vwCl [oX4 aW vW, ai cI (aW 5) 7 (vW 5), ai cI (aW 6) 7 (vW 6), ai cI (aW 7) 7 (vW 7), ai cI (aW 8) 9 (vW 8), ai cI (aW 9) 9 (vW 9), ai cI (aW 10) 9 (vW 10), ai cI (aW 11) 6 (vW 11), ai cI (aW 12) 6 (vW 12), ai cI (aW 13) 6 (vW 13), oX2 aS vS, oX3 aY aW aS o26, ai cI (aY 3) 427 (o26 3), ai cI (aY 4) 7 (o26 4), ai cI (aY 5) 125 (o26 5)] H := hP
  have hD : va_D A [oX4 aW vW, ai cI (aW 5) 7 (vW 5), ai cI (aW 6) 7 (vW 6), ai cI (aW 7) 7 (vW 7), ai cI (aW 8) 9 (vW 8), ai cI (aW 9) 9 (vW 9), ai cI (aW 10) 9 (vW 10), ai cI (aW 11) 6 (vW 11), ai cI (aW 12) 6 (vW 12), ai cI (aW 13) 6 (vW 13), oX2 aS vS, oX3 aY aW aS o26, ai cI (aY 3) 427 (o26 3), ai cI (aY 4) 7 (o26 4), ai cI (aY 5) 125 (o26 5)] := hD
  refine lv_iconst (v := (0 : Int32)) hx hb dX3_fewestHours_29 k_iconst_0 ?_
  refine lv_istore (lv' := [(4, .int (0 : Int32)), (0, .ref (aY 0)), (1, .int x1), (2, .int x2), (3, .int x3)]) hx hb dX3_fewestHours_30 hl (by decide) rfl (fun ls hl => ?_)
  obtain ⟨o32_2, ho32_2, h⟩ := bnd_some h
  refine L32 o32_2 (fun r er => ?_) (fun o32_2x er H locs ls hP hD hS hl => ?_) FU o26 x1 x2 x3 (0 : Int32) ho32_2 _ _ _ (hP.sub [11, 12, 13, 14, 0, 1, 2, 3, 4, 5, 6, 7, 8, 9, 10] rfl) (hD.sub [11, 12, 13, 14, 0, 1, 2, 3, 4, 5, 6, 7, 8, 9, 10] (by decide) rfl) hS (lv_sub hl [1, 2, 3, 4, 0] rfl)
  · subst er
    have h := (sm_l _ _ _).symm.trans h
    exact Option.some.inj h
  · subst er
    have h := (sm_r _ _ _).symm.trans h
    refine lv_bipush (v := (-9 : Int32)) hx hb dX3_fewestHours_118 k_bipush_n9 ?_
    have hres := Option.some.inj h
    subst hres
    exact hRet 120 _ _ _ hP hD hS dX3_fewestHours_120
abbrev rm_X3_fillBackward : Room := { frames := 4, cells := 0, slots := 0, locals := 97 }
theorem fi_X3_fillBackward_X3 : ∀ w ∈ wsX30, w ∈ wsX3_fillBackward := fun _ h => List.mem_cons_of_mem _ (List.mem_append_left _ (List.mem_append_left _ (List.mem_append_right _ h)))
theorem fi_X3_fillBackward_X4 : ∀ w ∈ wsX40, w ∈ wsX3_fillBackward := fun _ h => List.mem_cons_of_mem _ (List.mem_append_left _ (List.mem_append_right _ h))
theorem fi_X3_fillBackward_X2 : ∀ w ∈ wsX20, w ∈ wsX3_fillBackward := fun _ h => List.mem_cons_of_mem _ (List.mem_append_right _ h)
theorem hdV_X3_fillBackward : yX3_fillBackward.cls = RX3 ∧ yX3_fillBackward.cls ≠ "java/lang/invoke/MethodHandle" ∧ yX3_fillBackward.cls ≠ "java/lang/invoke/VarHandle" ∧ (parseMethodDescriptor yX3_fillBackward.desc).map (fun d => d.parameters.length) = some 2 := by decide +kernel
set_option maxRecDepth 100000 in
set_option maxHeartbeats 4000000 in
theorem c_X3_fillBackward (l : Launch) (G : va_G) (cI cZ : ClassId) (aY : Nat → Nat) (aW : Nat → Nat) (aS : Nat → Nat) (vY : Ob) (vW : Ob) (vS : Ob) (x1 : Int32) (x2 : Int32) (res : Ob) (h : m_X3_fillBackward vY vW vS x1 x2 = some res) : Ct l yX3_fillBackward wsX3_fillBackward rm_X3_fillBackward G cI cZ [.ref (aY 0), .int x1, .int x2] [oX3 aY aW aS vY, ai cI (aY 3) 427 (vY 3), ai cI (aY 4) 7 (vY 4), ai cI (aY 5) 125 (vY 5), oX4 aW vW, ai cI (aW 5) 7 (vW 5), ai cI (aW 6) 7 (vW 6), ai cI (aW 7) 7 (vW 7), ai cI (aW 8) 9 (vW 8), ai cI (aW 9) 9 (vW 9), ai cI (aW 10) 9 (vW 10), ai cI (aW 11) 6 (vW 11), ai cI (aW 12) 6 (vW 12), ai cI (aW 13) 6 (vW 13), oX2 aS vS] none [oX3 aY aW aS res, ai cI (aY 3) 427 (res 3), ai cI (aY 4) 7 (res 4), ai cI (aY 5) 125 (res 5), oX4 aW vW, ai cI (aW 5) 7 (vW 5), ai cI (aW 6) 7 (vW 6), ai cI (aW 7) 7 (vW 7), ai cI (aW 8) 9 (vW 8), ai cI (aW 9) 9 (vW 9), ai cI (aW 10) 9 (vW 10), ai cI (aW 11) 6 (vW 11), ai cI (aW 12) 6 (vW 12), ai cI (aW 13) 6 (vW 13), oX2 aS vS] := by
  refine Ct.of_v (maxL := 5) (by decide) rfl (Nat.le_of_ble_eq_true rfl) ?_
  intro p e s m below meth c args hx hb hml hown hts A hA hEN hP hD hS Q hRet ls hl
  have hown : s.vm.findClass RX3 = some m.cls := hown
  have hl : lv_has ls 5 [(0, .ref (aY 0)), (1, .int x1), (2, .int x2)] := hl
  have L27 : ∀ (out : Ob × Int32), (∀ ex : Ob × Int32, out = ex → ∀ (H : Heap) (locs : List Loc) (ls : Array Slot), va_P G vwCl [oX3 aY aW aS ex.1, ai cI (aY 3) 427 (ex.1 3), ai cI (aY 4) 7 (ex.1 4), ai cI (aY 5) 125 (ex.1 5), oX4 aW vW, ai cI (aW 5) 7 (vW 5), ai cI (aW 6) 7 (vW 6), ai cI (aW 7) 7 (vW 7), ai cI (aW 8) 9 (vW 8), ai cI (aW 9) 9 (vW 9), ai cI (aW 10) 9 (vW 10), ai cI (aW 11) 6 (vW 11), ai cI (aW 12) 6 (vW 12), ai cI (aW 13) 6 (vW 13), oX2 aS vS] H → va_D A [oX3 aY aW aS ex.1, ai cI (aY 3) 427 (ex.1 3), ai cI (aY 4) 7 (ex.1 4), ai cI (aY 5) 125 (ex.1 5), oX4 aW vW, ai cI (aW 5) 7 (vW 5), ai cI (aW 6) 7 (vW 6), ai cI (aW 7) 7 (vW 7), ai cI (aW 8) 9 (vW 8), ai cI (aW 9) 9 (vW 9), ai cI (aW 10) 9 (vW 10), ai cI (aW 11) 6 (vW 11), ai cI (aW 12) 6 (vW 12), ai cI (aW 13) 6 (vW 13), oX2 aS vS] → va_S A s.heap H locs → lv_has ls 5 [(0, .ref (aY 0)), (3, .int ex.2)] → W p l e rm_X3_fillBackward s m args below meth c H locs 0 0 Q (F0 m 61 ls [])) → ∀ (n : Nat) (vY : Ob) (x3 : Int32) (x4 : Int32), m_X3_fillBackward_L27 vW vS n vY x3 x4 = some out → ∀ (H : Heap) (locs : List Loc) (ls : Array Slot), va_P G vwCl [oX3 aY aW aS vY, ai cI (aY 3) 427 (vY 3), ai cI (aY 4) 7 (vY 4), ai cI (aY 5) 125 (vY 5), oX4 aW vW, ai cI (aW 5) 7 (vW 5), ai cI (aW 6) 7 (vW 6), ai cI (aW 7) 7 (vW 7), ai cI (aW 8) 9 (vW 8), ai cI (aW 9) 9 (vW 9), ai cI (aW 10) 9 (vW 10), ai cI (aW 11) 6 (vW 11), ai cI (aW 12) 6 (vW 12), ai cI (aW 13) 6 (vW 13), oX2 aS vS] H → va_D A [oX3 aY aW aS vY, ai cI (aY 3) 427 (vY 3), ai cI (aY 4) 7 (vY 4), ai cI (aY 5) 125 (vY 5), oX4 aW vW, ai cI (aW 5) 7 (vW 5), ai cI (aW 6) 7 (vW 6), ai cI (aW 7) 7 (vW 7), ai cI (aW 8) 9 (vW 8), ai cI (aW 9) 9 (vW 9), ai cI (aW 10) 9 (vW 10), ai cI (aW 11) 6 (vW 11), ai cI (aW 12) 6 (vW 12), ai cI (aW 13) 6 (vW 13), oX2 aS vS] → va_S A s.heap H locs → lv_has ls 5 [(0, .ref (aY 0)), (3, .int x3), (4, .int x4)] → W p l e rm_X3_fillBackward s m args below meth c H locs 0 0 Q (F0 m 27 ls []) := by
    intro out hKx
    intro n
    induction n with
    | zero => intro vY x3 x4 h; exact nomatch (show (none : Option (Ob × Int32)) = some out from h)
    | succ n hrc =>
      intro vY x3 x4 h H locs ls hP hD hS hl
      have h : m_X3_fillBackward_L27B vW vS (m_X3_fillBackward_L27 vW vS n) vY x3 x4 = some out := h
      generalize m_X3_fillBackward_L27 vW vS n = rc at h hrc
      unfold m_X3_fillBackward_L27B at h
      refine lv_iload hx hb dX3_fillBackward_27 (lv_at hl 2 rfl) ?_
      refine lv_aload_n hx hb dX3_fillBackward_29 rfl (lv_at hl 0 rfl) ?_
      refine va_get (D := G) (ci := 3) (v := .ref (aW 0)) (C := RX3) (T := TX3) (N := 14) hx hb hts fi_X3_fillBackward_X3 hown hEN.1 hP 0 rfl rfl 0 (by decide) (hts (.fieldLink RX3 21 "HourWell$Ways" "world" "LHourWell$World;") (List.mem_of_getElem? (i := 2) rfl)) (fun _ h9 => h9) rfl dX3_fillBackward_30 ?_
      refine va_get (D := G) (ci := 4) (v := .int (vW 0 0)) (C := RX4) (T := TX4) (N := 13) hx hb hts fi_X3_fillBackward_X4 hown hEN.1 hP 4 rfl rfl 0 (by decide) (hts (.fieldLink RX3 133 "HourWell$World" "places" "I") (List.mem_of_getElem? (i := 3) rfl)) (fun _ h9 => h9) rfl dX3_fillBackward_33 ?_
      refine lv_icmp_ge (tgt := 61) hx hb dX3_fillBackward_36 (by decide) (fun c36 => ?_) (fun c36 => ?_)
      · have h := (if_pos c36).symm.trans h
        exact hKx _ (Option.some.inj h).symm _ _ _ hP hD hS (lv_sub hl [0, 1] rfl)
      · have h := (if_neg c36).symm.trans h
        refine lv_aload_n hx hb dX3_fillBackward_39 rfl (lv_at hl 0 rfl) ?_
        refine lv_iload_n hx hb dX3_fillBackward_40 rfl (lv_at hl 1 rfl) ?_
        refine lv_iload hx hb dX3_fillBackward_41 (lv_at hl 2 rfl) ?_
        refine lv_aload_n hx hb dX3_fillBackward_43 rfl (lv_at hl 0 rfl) ?_
        refine lv_iload_n hx hb dX3_fillBackward_44 rfl (lv_at hl 1 rfl) ?_
        refine lv_iconst (v := (1 : Int32)) hx hb dX3_fillBackward_45 k_iconst_1 ?_
        refine lv_iadd hx hb dX3_fillBackward_46 ?_
        refine lv_iload hx hb dX3_fillBackward_47 (lv_at hl 2 rfl) ?_
        obtain ⟨o49, ho49, h⟩ := bnd_some h
        refine call_V0 (As := [.int (x3 + (1 : Int32)), .int x4]) (rest := [.int x4, .int x3, .ref (aY 0)]) ⟨hx, hb, hml, hown, hts⟩ (c_X3_setsAt l G cI cZ aY aW aS vY (x3 + (1 : Int32)) x4 o49 ho49) (cwV 2 hts gX3_fillBackward_X3_setsAt rfl rfl rfl hdV_X3_setsAt ⟨Nat.le_of_ble_eq_true rfl, Nat.le_of_ble_eq_true rfl⟩) hEN hA hP hD hS [0, 1] rfl (by decide) 0 rfl rfl rfl hl.1 rfl (Nat.le_of_ble_eq_true rfl) dX3_fillBackward_49 ⟨Nat.le_of_ble_eq_true rfl, Nat.le_of_ble_eq_true rfl⟩ (fun H locs hP hS => ?_)
        obtain ⟨o52, ho52, h⟩ := bnd_some h
        refine call_VJ (wr := [oX4 aW vW, ai cI (aW 5) 7 (vW 5), ai cI (aW 6) 7 (vW 6), ai cI (aW 7) 7 (vW 7), ai cI (aW 8) 9 (vW 8), ai cI (aW 9) 9 (vW 9), ai cI (aW 10) 9 (vW 10), ai cI (aW 11) 6 (vW 11), ai cI (aW 12) 6 (vW 12), ai cI (aW 13) 6 (vW 13), oX2 aS vS]) (As := [.int x3, .int x4, .int o49]) (rest := []) ⟨hx, hb, hml, hown, hts⟩ (c_X3_addSets l G cI cZ aY aW aS vY x3 x4 o49 o52 ho52) (cwV 3 hts gX3_fillBackward_X3_addSets rfl rfl rfl hdV_X3_addSets ⟨Nat.le_of_ble_eq_true rfl, Nat.le_of_ble_eq_true rfl⟩) hEN hA hP hD hS [0, 1, 2, 3] [4, 5, 6, 7, 8, 9, 10, 11, 12, 13, 14] rfl (by decide) rfl (by decide) (by decide) 0 rfl rfl rfl hl.1 rfl (Nat.le_of_ble_eq_true rfl) dX3_fillBackward_52 ⟨Nat.le_of_ble_eq_true rfl, Nat.le_of_ble_eq_true rfl⟩ (fun H locs hP hD hS => ?_)
        have hP : va_P G vwCl [oX4 aW vW, ai cI (aW 5) 7 (vW 5), ai cI (aW 6) 7 (vW 6), ai cI (aW 7) 7 (vW 7), ai cI (aW 8) 9 (vW 8), ai cI (aW 9) 9 (vW 9), ai cI (aW 10) 9 (vW 10), ai cI (aW 11) 6 (vW 11), ai cI (aW 12) 6 (vW 12), ai cI (aW 13) 6 (vW 13), oX2 aS vS, oX3 aY aW aS o52, ai cI (aY 3) 427 (o52 3), ai cI (aY 4) 7 (o52 4), ai cI (aY 5) 125 (o52 5)] H := hP
        have hD : va_D A [oX4 aW vW, ai cI (aW 5) 7 (vW 5), ai cI (aW 6) 7 (vW 6), ai cI (aW 7) 7 (vW 7), ai cI (aW 8) 9 (vW 8), ai cI (aW 9) 9 (vW 9), ai cI (aW 10) 9 (vW 10), ai cI (aW 11) 6 (vW 11), ai cI (aW 12) 6 (vW 12), ai cI (aW 13) 6 (vW 13), oX2 aS vS, oX3 aY aW aS o52, ai cI (aY 3) 427 (o52 3), ai cI (aY 4) 7 (o52 4), ai cI (aY 5) 125 (o52 5)] := hD
        refine lv_iinc (v := (x4 + (1 : Int32))) (lv' := [(4, .int (x4 + (1 : Int32))), (0, .ref (aY 0)), (3, .int x3)]) hx hb dX3_fillBackward_55 hl (k := 2) rfl (congrArg (fun z => x4 + z) k_iconst_1) (by decide) rfl (fun ls hl => ?_)
        refine lv_goto (tgt := 27) hx hb dX3_fillBackward_58 (by decide) ?_
        exact hrc o52 x3 (x4 + (1 : Int32)) h _ _ _ (hP.sub [11, 12, 13, 14, 0, 1, 2, 3, 4, 5, 6, 7, 8, 9, 10] rfl) (hD.sub [11, 12, 13, 14, 0, 1, 2, 3, 4, 5, 6, 7, 8, 9, 10] (by decide) rfl) hS (lv_sub hl [1, 2, 0] rfl)
  have L20 : ∀ (out : Ob), (∀ ex : Ob, out = ex → ∀ (H : Heap) (locs : List Loc) (ls : Array Slot), va_P G vwCl [oX3 aY aW aS ex, ai cI (aY 3) 427 (ex 3), ai cI (aY 4) 7 (ex 4), ai cI (aY 5) 125 (ex 5), oX4 aW vW, ai cI (aW 5) 7 (vW 5), ai cI (aW 6) 7 (vW 6), ai cI (aW 7) 7 (vW 7), ai cI (aW 8) 9 (vW 8), ai cI (aW 9) 9 (vW 9), ai cI (aW 10) 9 (vW 10), ai cI (aW 11) 6 (vW 11), ai cI (aW 12) 6 (vW 12), ai cI (aW 13) 6 (vW 13), oX2 aS vS] H → va_D A [oX3 aY aW aS ex, ai cI (aY 3) 427 (ex 3), ai cI (aY 4) 7 (ex 4), ai cI (aY 5) 125 (ex 5), oX4 aW vW, ai cI (aW 5) 7 (vW 5), ai cI (aW 6) 7 (vW 6), ai cI (aW 7) 7 (vW 7), ai cI (aW 8) 9 (vW 8), ai cI (aW 9) 9 (vW 9), ai cI (aW 10) 9 (vW 10), ai cI (aW 11) 6 (vW 11), ai cI (aW 12) 6 (vW 12), ai cI (aW 13) 6 (vW 13), oX2 aS vS] → va_S A s.heap H locs → lv_has ls 5 [] → W p l e rm_X3_fillBackward s m args below meth c H locs 0 0 Q (F0 m 81 ls [])) → ∀ (n : Nat) (vY : Ob) (x3 : Int32), m_X3_fillBackward_L20 vW vS n vY x3 = some out → ∀ (H : Heap) (locs : List Loc) (ls : Array Slot), va_P G vwCl [oX3 aY aW aS vY, ai cI (aY 3) 427 (vY 3), ai cI (aY 4) 7 (vY 4), ai cI (aY 5) 125 (vY 5), oX4 aW vW, ai cI (aW 5) 7 (vW 5), ai cI (aW 6) 7 (vW 6), ai cI (aW 7) 7 (vW 7), ai cI (aW 8) 9 (vW 8), ai cI (aW 9) 9 (vW 9), ai cI (aW 10) 9 (vW 10), ai cI (aW 11) 6 (vW 11), ai cI (aW 12) 6 (vW 12), ai cI (aW 13) 6 (vW 13), oX2 aS vS] H → va_D A [oX3 aY aW aS vY, ai cI (aY 3) 427 (vY 3), ai cI (aY 4) 7 (vY 4), ai cI (aY 5) 125 (vY 5), oX4 aW vW, ai cI (aW 5) 7 (vW 5), ai cI (aW 6) 7 (vW 6), ai cI (aW 7) 7 (vW 7), ai cI (aW 8) 9 (vW 8), ai cI (aW 9) 9 (vW 9), ai cI (aW 10) 9 (vW 10), ai cI (aW 11) 6 (vW 11), ai cI (aW 12) 6 (vW 12), ai cI (aW 13) 6 (vW 13), oX2 aS vS] → va_S A s.heap H locs → lv_has ls 5 [(0, .ref (aY 0)), (3, .int x3)] → W p l e rm_X3_fillBackward s m args below meth c H locs 0 0 Q (F0 m 20 ls []) := by
    intro out hKx
    intro n
    induction n with
    | zero => intro vY x3 h; exact nomatch (show (none : Option (Ob)) = some out from h)
    | succ n hrc =>
      intro vY x3 h H locs ls hP hD hS hl
      have h : m_X3_fillBackward_L20B vW vS (m_X3_fillBackward_L20 vW vS n) vY x3 = some out := h
      generalize m_X3_fillBackward_L20 vW vS n = rc at h hrc
      unfold m_X3_fillBackward_L20B at h
      refine lv_iload_n hx hb dX3_fillBackward_20 rfl (lv_at hl 1 rfl) ?_
      refine lv_if_lt (tgt := 81) hx hb dX3_fillBackward_21 (by decide) (fun c21 => ?_) (fun c21 => ?_)
      · have h := (if_pos c21).symm.trans h
        exact hKx _ (Option.some.inj h).symm _ _ _ hP hD hS (lv_sub hl [] rfl)
      · have h := (if_neg c21).symm.trans h
        refine lv_iconst (v := (0 : Int32)) hx hb dX3_fillBackward_24 k_iconst_0 ?_
        refine lv_istore (lv' := [(4, .int (0 : Int32)), (0, .ref (aY 0)), (3, .int x3)]) hx hb dX3_fillBackward_25 hl (by decide) rfl (fun ls hl => ?_)
        obtain ⟨o27_1, ho27_1, h⟩ := bnd_some h
        refine L27 o27_1 (fun o27_1e er H locs ls hP hD hS hl => ?_) FU vY x3 (0 : Int32) ho27_1 _ _ _ hP hD hS (lv_sub hl [1, 2, 0] rfl)
        subst er
        refine lv_aload_n hx hb dX3_fillBackward_61 rfl (lv_at hl 0 rfl) ?_
        refine lv_iload_n hx hb dX3_fillBackward_62 rfl (lv_at hl 1 rfl) ?_
        refine lv_iconst (v := (0 : Int32)) hx hb dX3_fillBackward_63 k_iconst_0 ?_
        refine lv_iconst (v := (-1 : Int32)) hx hb dX3_fillBackward_64 k_iconst_n1 ?_
        obtain ⟨o65, ho65, h⟩ := bnd_some h
        refine call_VJ (wr := [ai cI (aW 11) 6 (vW 11), ai cI (aW 12) 6 (vW 12), ai cI (aW 13) 6 (vW 13)]) (As := [.int o27_1.2, .int (0 : Int32), .int (-1 : Int32)]) (rest := []) ⟨hx, hb, hml, hown, hts⟩ (c_X3_spreadWalks l G cI cZ aY aW aS o27_1.1 vW vS o27_1.2 (0 : Int32) (-1 : Int32) o65 ho65) (cwV 3 hts gX3_fillBackward_X3_spreadWalks rfl rfl rfl hdV_X3_spreadWalks ⟨Nat.le_of_ble_eq_true rfl, Nat.le_of_ble_eq_true rfl⟩) hEN hA hP hD hS [0, 1, 2, 3, 4, 5, 6, 7, 8, 9, 10, 14] [11, 12, 13] rfl (by decide) rfl (by decide) (by decide) 0 rfl rfl rfl hl.1 rfl (Nat.le_of_ble_eq_true rfl) dX3_fillBackward_65 ⟨Nat.le_of_ble_eq_true rfl, Nat.le_of_ble_eq_true rfl⟩ (fun H locs hP hD hS => ?_)
        have hP : va_P G vwCl [ai cI (aW 11) 6 (vW 11), ai cI (aW 12) 6 (vW 12), ai cI (aW 13) 6 (vW 13), oX3 aY aW aS o65, ai cI (aY 3) 427 (o65 3), ai cI (aY 4) 7 (o65 4), ai cI (aY 5) 125 (o65 5), oX4 aW vW, ai cI (aW 5) 7 (vW 5), ai cI (aW 6) 7 (vW 6), ai cI (aW 7) 7 (vW 7), ai cI (aW 8) 9 (vW 8), ai cI (aW 9) 9 (vW 9), ai cI (aW 10) 9 (vW 10), oX2 aS vS] H := hP
        have hD : va_D A [ai cI (aW 11) 6 (vW 11), ai cI (aW 12) 6 (vW 12), ai cI (aW 13) 6 (vW 13), oX3 aY aW aS o65, ai cI (aY 3) 427 (o65 3), ai cI (aY 4) 7 (o65 4), ai cI (aY 5) 125 (o65 5), oX4 aW vW, ai cI (aW 5) 7 (vW 5), ai cI (aW 6) 7 (vW 6), ai cI (aW 7) 7 (vW 7), ai cI (aW 8) 9 (vW 8), ai cI (aW 9) 9 (vW 9), ai cI (aW 10) 9 (vW 10), oX2 aS vS] := hD
        refine lv_aload_n hx hb dX3_fillBackward_68 rfl (lv_at hl 0 rfl) ?_
        refine lv_iload_n hx hb dX3_fillBackward_69 rfl (lv_at hl 1 rfl) ?_
        refine lv_iconst (v := (0 : Int32)) hx hb dX3_fillBackward_70 k_iconst_0 ?_
        refine lv_iconst (v := (-1 : Int32)) hx hb dX3_fillBackward_71 k_iconst_n1 ?_
        obtain ⟨o72, ho72, h⟩ := bnd_some h
        refine call_VJ (wr := [ai cI (aW 5) 7 (vW 5), ai cI (aW 6) 7 (vW 6), ai cI (aW 7) 7 (vW 7), ai cI (aW 8) 9 (vW 8), ai cI (aW 9) 9 (vW 9), ai cI (aW 10) 9 (vW 10), oX2 aS vS]) (As := [.int o27_1.2, .int (0 : Int32), .int (-1 : Int32)]) (rest := []) ⟨hx, hb, hml, hown, hts⟩ (c_X3_spreadAsks l G cI cZ aY aW aS o65 vW o27_1.2 (0 : Int32) (-1 : Int32) o72 ho72) (cwV 3 hts gX3_fillBackward_X3_spreadAsks rfl rfl rfl hdV_X3_spreadAsks ⟨Nat.le_of_ble_eq_true rfl, Nat.le_of_ble_eq_true rfl⟩) hEN hA hP hD hS [3, 4, 5, 6, 7, 0, 1, 2] [8, 9, 10, 11, 12, 13, 14] rfl (by decide) rfl (by decide) (by decide) 3 rfl rfl rfl hl.1 rfl (Nat.le_of_ble_eq_true rfl) dX3_fillBackward_72 ⟨Nat.le_of_ble_eq_true rfl, Nat.le_of_ble_eq_true rfl⟩ (fun H locs hP hD hS => ?_)
        have hP : va_P G vwCl [ai cI (aW 5) 7 (vW 5), ai cI (aW 6) 7 (vW 6), ai cI (aW 7) 7 (vW 7), ai cI (aW 8) 9 (vW 8), ai cI (aW 9) 9 (vW 9), ai cI (aW 10) 9 (vW 10), oX2 aS vS, oX3 aY aW aS o72, ai cI (aY 3) 427 (o72 3), ai cI (aY 4) 7 (o72 4), ai cI (aY 5) 125 (o72 5), oX4 aW vW, ai cI (aW 11) 6 (vW 11), ai cI (aW 12) 6 (vW 12), ai cI (aW 13) 6 (vW 13)] H := hP
        have hD : va_D A [ai cI (aW 5) 7 (vW 5), ai cI (aW 6) 7 (vW 6), ai cI (aW 7) 7 (vW 7), ai cI (aW 8) 9 (vW 8), ai cI (aW 9) 9 (vW 9), ai cI (aW 10) 9 (vW 10), oX2 aS vS, oX3 aY aW aS o72, ai cI (aY 3) 427 (o72 3), ai cI (aY 4) 7 (o72 4), ai cI (aY 5) 125 (o72 5), oX4 aW vW, ai cI (aW 11) 6 (vW 11), ai cI (aW 12) 6 (vW 12), ai cI (aW 13) 6 (vW 13)] := hD
        refine lv_iinc (v := (o27_1.2 + (-1 : Int32))) (lv' := [(3, .int (o27_1.2 + (-1 : Int32))), (0, .ref (aY 0))]) hx hb dX3_fillBackward_75 hl (k := 1) rfl (congrArg (fun z => o27_1.2 + z) k_iconst_n1) (by decide) rfl (fun ls hl => ?_)
        refine lv_goto (tgt := 20) hx hb dX3_fillBackward_78 (by decide) ?_
        exact hrc o72 (o27_1.2 + (-1 : Int32)) h _ _ _ (hP.sub [7, 8, 9, 10, 11, 0, 1, 2, 3, 4, 5, 12, 13, 14, 6] rfl) (hD.sub [7, 8, 9, 10, 11, 0, 1, 2, 3, 4, 5, 12, 13, 14, 6] (by decide) rfl) hS (lv_sub hl [1, 0] rfl)
  unfold m_X3_fillBackward at h
  refine lv_aload_n hx hb dX3_fillBackward_0 rfl (lv_at hl 0 rfl) ?_
  refine va_get (D := G) (ci := 3) (v := .ref (aY 3)) (C := RX3) (T := TX3) (N := 14) hx hb hts fi_X3_fillBackward_X3 hown hEN.1 hP 0 rfl rfl 2 (by decide) (hts (.fieldLink RX3 9 "HourWell$Ways" "table" "[I") (List.mem_of_getElem? (i := 1) rfl)) (fun _ h9 => h9) rfl dX3_fillBackward_1 ?_
  refine lv_iconst (v := (0 : Int32)) hx hb dX3_fillBackward_4 k_iconst_0 ?_
  obtain ⟨o5, ho5, h⟩ := bnd_some h
  refine call_SJ (wr := [oX3 aY aW aS vY, ai cI (aY 4) 7 (vY 4), ai cI (aY 5) 125 (vY 5), oX4 aW vW, ai cI (aW 5) 7 (vW 5), ai cI (aW 6) 7 (vW 6), ai cI (aW 7) 7 (vW 7), ai cI (aW 8) 9 (vW 8), ai cI (aW 9) 9 (vW 9), ai cI (aW 10) 9 (vW 10), ai cI (aW 11) 6 (vW 11), ai cI (aW 12) 6 (vW 12), ai cI (aW 13) 6 (vW 13), oX2 aS vS]) (As := [.ref (aY 3), .int (0 : Int32)]) (rest := []) ⟨hx, hb, hml, hown, hts⟩ (c_J7_fill_53178 l G cI cZ (aY 3) (vY 3) (0 : Int32) o5 ho5) (va_cwS 2 hts gX3_fillBackward_J7_fill_53178 rfl rfl rfl hdS_J7_fill_53178 ⟨Nat.le_of_ble_eq_true rfl, Nat.le_of_ble_eq_true rfl⟩) hEN hA hP hD hS [1] [0, 2, 3, 4, 5, 6, 7, 8, 9, 10, 11, 12, 13, 14] rfl (by decide) rfl (by decide) (by decide) rfl hl.1 rfl (Nat.le_of_ble_eq_true rfl) dX3_fillBackward_5 ⟨Nat.le_of_ble_eq_true rfl, Nat.le_of_ble_eq_true rfl⟩ (fun H locs hP hD hS => ?_)
  have hP : va_P G vwCl [oX3 aY aW aS vY, ai cI (aY 4) 7 (vY 4), ai cI (aY 5) 125 (vY 5), oX4 aW vW, ai cI (aW 5) 7 (vW 5), ai cI (aW 6) 7 (vW 6), ai cI (aW 7) 7 (vW 7), ai cI (aW 8) 9 (vW 8), ai cI (aW 9) 9 (vW 9), ai cI (aW 10) 9 (vW 10), ai cI (aW 11) 6 (vW 11), ai cI (aW 12) 6 (vW 12), ai cI (aW 13) 6 (vW 13), oX2 aS vS, ai cI (aY 3) 427 o5] H := hP
  have hD : va_D A [oX3 aY aW aS vY, ai cI (aY 4) 7 (vY 4), ai cI (aY 5) 125 (vY 5), oX4 aW vW, ai cI (aW 5) 7 (vW 5), ai cI (aW 6) 7 (vW 6), ai cI (aW 7) 7 (vW 7), ai cI (aW 8) 9 (vW 8), ai cI (aW 9) 9 (vW 9), ai cI (aW 10) 9 (vW 10), ai cI (aW 11) 6 (vW 11), ai cI (aW 12) 6 (vW 12), ai cI (aW 13) 6 (vW 13), oX2 aS vS, ai cI (aY 3) 427 o5] := hD
  refine lv_aload_n hx hb dX3_fillBackward_8 rfl (lv_at hl 0 rfl) ?_
  refine lv_iload_n hx hb dX3_fillBackward_9 rfl (lv_at hl 2 rfl) ?_
  refine lv_iconst (v := (0 : Int32)) hx hb dX3_fillBackward_10 k_iconst_0 ?_
  refine lv_iload_n hx hb dX3_fillBackward_11 rfl (lv_at hl 1 rfl) ?_
  obtain ⟨o12, ho12, h⟩ := bnd_some h
  refine call_S0 (As := [.int x1]) (rest := [.int (0 : Int32), .int x2, .ref (aY 0)]) ⟨hx, hb, hml, hown, hts⟩ (c_X3_setsHaving l G cI cZ  x1 o12 ho12) (va_cwS 1 hts gX3_fillBackward_X3_setsHaving rfl rfl rfl hdS_X3_setsHaving ⟨Nat.le_of_ble_eq_true rfl, Nat.le_of_ble_eq_true rfl⟩) hEN hA hP hD hS [] rfl (by decide) rfl hl.1 rfl (Nat.le_of_ble_eq_true rfl) dX3_fillBackward_12 ⟨Nat.le_of_ble_eq_true rfl, Nat.le_of_ble_eq_true rfl⟩ (fun H locs hP hS => ?_)
  obtain ⟨o15, ho15, h⟩ := bnd_some h
  refine call_VJ (wr := [oX4 aW vW, ai cI (aW 5) 7 (vW 5), ai cI (aW 6) 7 (vW 6), ai cI (aW 7) 7 (vW 7), ai cI (aW 8) 9 (vW 8), ai cI (aW 9) 9 (vW 9), ai cI (aW 10) 9 (vW 10), ai cI (aW 11) 6 (vW 11), ai cI (aW 12) 6 (vW 12), ai cI (aW 13) 6 (vW 13), oX2 aS vS]) (As := [.int x2, .int (0 : Int32), .int o12]) (rest := []) ⟨hx, hb, hml, hown, hts⟩ (c_X3_addSets l G cI cZ aY aW aS (upR vY 3 o5) x2 (0 : Int32) o12 o15 ho15) (cwV 3 hts gX3_fillBackward_X3_addSets rfl rfl rfl hdV_X3_addSets ⟨Nat.le_of_ble_eq_true rfl, Nat.le_of_ble_eq_true rfl⟩) hEN hA hP hD hS [0, 14, 1, 2] [3, 4, 5, 6, 7, 8, 9, 10, 11, 12, 13] rfl (by decide) rfl (by decide) (by decide) 0 rfl rfl rfl hl.1 rfl (Nat.le_of_ble_eq_true rfl) dX3_fillBackward_15 ⟨Nat.le_of_ble_eq_true rfl, Nat.le_of_ble_eq_true rfl⟩ (fun H locs hP hD hS => ?_)
  have hP : va_P G vwCl [oX4 aW vW, ai cI (aW 5) 7 (vW 5), ai cI (aW 6) 7 (vW 6), ai cI (aW 7) 7 (vW 7), ai cI (aW 8) 9 (vW 8), ai cI (aW 9) 9 (vW 9), ai cI (aW 10) 9 (vW 10), ai cI (aW 11) 6 (vW 11), ai cI (aW 12) 6 (vW 12), ai cI (aW 13) 6 (vW 13), oX2 aS vS, oX3 aY aW aS o15, ai cI (aY 3) 427 (o15 3), ai cI (aY 4) 7 (o15 4), ai cI (aY 5) 125 (o15 5)] H := hP
  have hD : va_D A [oX4 aW vW, ai cI (aW 5) 7 (vW 5), ai cI (aW 6) 7 (vW 6), ai cI (aW 7) 7 (vW 7), ai cI (aW 8) 9 (vW 8), ai cI (aW 9) 9 (vW 9), ai cI (aW 10) 9 (vW 10), ai cI (aW 11) 6 (vW 11), ai cI (aW 12) 6 (vW 12), ai cI (aW 13) 6 (vW 13), oX2 aS vS, oX3 aY aW aS o15, ai cI (aY 3) 427 (o15 3), ai cI (aY 4) 7 (o15 4), ai cI (aY 5) 125 (o15 5)] := hD
  refine lv_iload_n hx hb dX3_fillBackward_18 rfl (lv_at hl 2 rfl) ?_
  refine lv_istore_n (lv' := [(3, .int x2), (0, .ref (aY 0)), (1, .int x1), (2, .int x2)]) hx hb dX3_fillBackward_19 rfl hl (by decide) rfl (fun ls hl => ?_)
  obtain ⟨o20_2, ho20_2, h⟩ := bnd_some h
  refine L20 o20_2 (fun o20_2e er H locs ls hP hD hS hl => ?_) FU o15 x2 ho20_2 _ _ _ (hP.sub [11, 12, 13, 14, 0, 1, 2, 3, 4, 5, 6, 7, 8, 9, 10] rfl) (hD.sub [11, 12, 13, 14, 0, 1, 2, 3, 4, 5, 6, 7, 8, 9, 10] (by decide) rfl) hS (lv_sub hl [1, 0] rfl)
  subst er
  have hres := Option.some.inj h
  subst hres
  exact hRet 81 _ _ _ hP hD hS dX3_fillBackward_81
abbrev rm_X3_standAtStart : Room := { frames := 0, cells := 0, slots := 0, locals := 0 }
theorem fi_X3_standAtStart_X3 : ∀ w ∈ wsX30, w ∈ wsX3_standAtStart := fun _ h => List.mem_cons_of_mem _ (List.mem_append_right _ h)
theorem hdV_X3_standAtStart : yX3_standAtStart.cls = RX3 ∧ yX3_standAtStart.cls ≠ "java/lang/invoke/MethodHandle" ∧ yX3_standAtStart.cls ≠ "java/lang/invoke/VarHandle" ∧ (parseMethodDescriptor yX3_standAtStart.desc).map (fun d => d.parameters.length) = some 0 := by decide +kernel
set_option maxRecDepth 100000 in
set_option maxHeartbeats 4000000 in
theorem c_X3_standAtStart (l : Launch) (G : va_G) (cI cZ : ClassId) (aY : Nat → Nat) (aW : Nat → Nat) (aS : Nat → Nat) (vY : Ob)  (res : Ob) (h : m_X3_standAtStart vY  = some res) : Ct l yX3_standAtStart wsX3_standAtStart rm_X3_standAtStart G cI cZ [.ref (aY 0)] [oX3 aY aW aS vY, ai cI (aY 3) 427 (vY 3), ai cI (aY 4) 7 (vY 4), ai cI (aY 5) 125 (vY 5)] none [oX3 aY aW aS res, ai cI (aY 3) 427 (res 3), ai cI (aY 4) 7 (res 4), ai cI (aY 5) 125 (res 5)] := by
  refine Ct.of_v (maxL := 1) (by decide) rfl (Nat.le_of_ble_eq_true rfl) ?_
  intro p e s m below meth c args hx hb hml hown hts A hA hEN hP hD hS Q hRet ls hl
  have hown : s.vm.findClass RX3 = some m.cls := hown
  have hl : lv_has ls 1 [(0, .ref (aY 0))] := hl
  unfold m_X3_standAtStart at h
  refine lv_aload_n hx hb dX3_standAtStart_0 rfl (lv_at hl 0 rfl) ?_
  refine lv_aload_n hx hb dX3_standAtStart_1 rfl (lv_at hl 0 rfl) ?_
  refine va_get (D := G) (ci := 3) (v := .int (vY 0 8)) (C := RX3) (T := TX3) (N := 14) hx hb hts fi_X3_standAtStart_X3 hown hEN.1 hP 0 rfl rfl 8 (by decide) (hts (.fieldLink RX3 42 "HourWell$Ways" "fromPlace" "I") (List.mem_of_getElem? (i := 1) rfl)) (fun _ h9 => h9) rfl dX3_standAtStart_2 ?_
  refine va_put (D := G) (ci := 3) (v := .int (vY 0 8)) (ty := .int) (C := RX3) (T := TX3) (N := 14) hx hb hts fi_X3_standAtStart_X3 tyX3 tyX3_ok nmX3 hown hEN.1 hP hD hS 0 rfl rfl 11 (by decide) (hts (.fieldLink RX3 93 "HourWell$Ways" "place" "I") (List.mem_of_getElem? (i := 2) rfl)) (fun _ h9 => h9) rfl (by decide +kernel) rfl rfl (Nat.le_of_ble_eq_true rfl) dX3_standAtStart_5 (fun H locs hP hD hS => ?_)
  have hP : va_P G vwCl [oX3 aY aW aS (st vY 0 11 (vY 0 8)), ai cI (aY 3) 427 (vY 3), ai cI (aY 4) 7 (vY 4), ai cI (aY 5) 125 (vY 5)] H := hP
  have hD : va_D A [oX3 aY aW aS (st vY 0 11 (vY 0 8)), ai cI (aY 3) 427 (vY 3), ai cI (aY 4) 7 (vY 4), ai cI (aY 5) 125 (vY 5)] := hD
  refine lv_aload_n hx hb dX3_standAtStart_8 rfl (lv_at hl 0 rfl) ?_
  refine lv_iconst (v := (0 : Int32)) hx hb dX3_standAtStart_9 k_iconst_0 ?_
  refine va_put (D := G) (ci := 3) (v := .int (0 : Int32)) (ty := .int) (C := RX3) (T := TX3) (N := 14) hx hb hts fi_X3_standAtStart_X3 tyX3 tyX3_ok nmX3 hown hEN.1 hP hD hS 0 rfl rfl 12 (by decide) (hts (.fieldLink RX3 98 "HourWell$Ways" "gone" "I") (List.mem_of_getElem? (i := 3) rfl)) (fun _ h9 => h9) rfl (by decide +kernel) rfl rfl (Nat.le_of_ble_eq_true rfl) dX3_standAtStart_10 (fun H locs hP hD hS => ?_)
  have hP : va_P G vwCl [oX3 aY aW aS (st (st vY 0 11 (vY 0 8)) 0 12 (0 : Int32)), ai cI (aY 3) 427 (vY 3), ai cI (aY 4) 7 (vY 4), ai cI (aY 5) 125 (vY 5)] H := hP
  have hD : va_D A [oX3 aY aW aS (st (st vY 0 11 (vY 0 8)) 0 12 (0 : Int32)), ai cI (aY 3) 427 (vY 3), ai cI (aY 4) 7 (vY 4), ai cI (aY 5) 125 (vY 5)] := hD
  refine lv_aload_n hx hb dX3_standAtStart_13 rfl (lv_at hl 0 rfl) ?_
  refine lv_aload_n hx hb dX3_standAtStart_14 rfl (lv_at hl 0 rfl) ?_
  refine va_get (D := G) (ci := 3) (v := .int (vY 0 10)) (C := RX3) (T := TX3) (N := 14) hx hb hts fi_X3_standAtStart_X3 hown hEN.1 hP 0 rfl rfl 10 (by decide) (hts (.fieldLink RX3 54 "HourWell$Ways" "fromThings" "I") (List.mem_of_getElem? (i := 4) rfl)) (fun _ h9 => h9) rfl dX3_standAtStart_15 ?_
  refine va_put (D := G) (ci := 3) (v := .int (vY 0 10)) (ty := .int) (C := RX3) (T := TX3) (N := 14) hx hb hts fi_X3_standAtStart_X3 tyX3 tyX3_ok nmX3 hown hEN.1 hP hD hS 0 rfl rfl 13 (by decide) (hts (.fieldLink RX3 85 "HourWell$Ways" "things" "I") (List.mem_of_getElem? (i := 5) rfl)) (fun _ h9 => h9) rfl (by decide +kernel) rfl rfl (Nat.le_of_ble_eq_true rfl) dX3_standAtStart_18 (fun H locs hP hD hS => ?_)
  have hP : va_P G vwCl [oX3 aY aW aS (st (st (st vY 0 11 (vY 0 8)) 0 12 (0 : Int32)) 0 13 (vY 0 10)), ai cI (aY 3) 427 (vY 3), ai cI (aY 4) 7 (vY 4), ai cI (aY 5) 125 (vY 5)] H := hP
  have hD : va_D A [oX3 aY aW aS (st (st (st vY 0 11 (vY 0 8)) 0 12 (0 : Int32)) 0 13 (vY 0 10)), ai cI (aY 3) 427 (vY 3), ai cI (aY 4) 7 (vY 4), ai cI (aY 5) 125 (vY 5)] := hD
  have hres := Option.some.inj h
  subst hres
  exact hRet 21 _ _ _ hP hD hS dX3_standAtStart_21
abbrev rm_X3_canBeHome : Room := { frames := 1, cells := 0, slots := 0, locals := 21 }
theorem fi_X3_canBeHome_X3 : ∀ w ∈ wsX30, w ∈ wsX3_canBeHome := fun _ h => List.mem_cons_of_mem _ (List.mem_append_right _ h)
theorem hdV_X3_canBeHome : yX3_canBeHome.cls = RX3 ∧ yX3_canBeHome.cls ≠ "java/lang/invoke/MethodHandle" ∧ yX3_canBeHome.cls ≠ "java/lang/invoke/VarHandle" ∧ (parseMethodDescriptor yX3_canBeHome.desc).map (fun d => d.parameters.length) = some 3 := by decide +kernel
set_option maxRecDepth 100000 in
set_option maxHeartbeats 4000000 in
theorem c_X3_canBeHome (l : Launch) (G : va_G) (cI cZ : ClassId) (aY : Nat → Nat) (aW : Nat → Nat) (aS : Nat → Nat) (vY : Ob) (x1 : Int32) (x2 : Int32) (x3 : Int32) (res : Int32) (h : m_X3_canBeHome vY x1 x2 x3 = some res) : Ct l yX3_canBeHome wsX3_canBeHome rm_X3_canBeHome G cI cZ [.ref (aY 0), .int x1, .int x2, .int x3] [oX3 aY aW aS vY, ai cI (aY 3) 427 (vY 3)] (some (.int res)) [oX3 aY aW aS vY, ai cI (aY 3) 427 (vY 3)] := by
  refine Ct.of_z (maxL := 4) (by decide) rfl (Nat.le_of_ble_eq_true rfl) ?_
  intro p e s m below meth c args hx hb hml hown hts A hA hEN hP hD hS Q hRet ls hl
  have hown : s.vm.findClass RX3 = some m.cls := hown
  have hl : lv_has ls 4 [(0, .ref (aY 0)), (1, .int x1), (2, .int x2), (3, .int x3)] := hl
  unfold m_X3_canBeHome at h
  refine lv_iload_n hx hb dX3_canBeHome_0 rfl (lv_at hl 1 rfl) ?_
  refine lv_iload_n hx hb dX3_canBeHome_1 rfl (lv_at hl 2 rfl) ?_
  obtain ⟨o2, ho2, h⟩ := bnd_some h
  refine call_S0 (As := [.int x1, .int x2]) (rest := []) ⟨hx, hb, hml, hown, hts⟩ (c_X3_isCell l G cI cZ  x1 x2 o2 ho2) (va_cwS 2 hts gX3_canBeHome_X3_isCell rfl rfl rfl hdS_X3_isCell ⟨Nat.le_of_ble_eq_true rfl, Nat.le_of_ble_eq_true rfl⟩) hEN hA hP hD hS [] rfl (by decide) rfl hl.1 rfl (Nat.le_of_ble_eq_true rfl) dX3_canBeHome_2 ⟨Nat.le_of_ble_eq_true rfl, Nat.le_of_ble_eq_true rfl⟩ (fun H locs hP hS => ?_)
  refine lv_if_eq (tgt := 31) hx hb dX3_canBeHome_5 (by decide) (fun c5 => ?_) (fun c5 => ?_)
  · have h := (if_pos c5).symm.trans h
    refine lv_iconst (v := (0 : Int32)) hx hb dX3_canBeHome_31 k_iconst_0 ?_
    have hres := Option.some.inj h
    subst hres
    exact hRet 32 nz0 _ _ _ hP hD hS dX3_canBeHome_32
  · have h := (if_neg c5).symm.trans h
    refine lv_aload_n hx hb dX3_canBeHome_8 rfl (lv_at hl 0 rfl) ?_
    refine va_get (D := G) (ci := 3) (v := .ref (aY 3)) (C := RX3) (T := TX3) (N := 14) hx hb hts fi_X3_canBeHome_X3 hown hEN.1 hP 0 rfl rfl 2 (by decide) (hts (.fieldLink RX3 9 "HourWell$Ways" "table" "[I") (List.mem_of_getElem? (i := 1) rfl)) (fun _ h9 => h9) rfl dX3_canBeHome_9 ?_
    refine lv_iload_n hx hb dX3_canBeHome_12 rfl (lv_at hl 1 rfl) ?_
    refine lv_bipush (v := (7 : Int32)) hx hb dX3_canBeHome_13 k_bipush_7 ?_
    refine lv_imul hx hb dX3_canBeHome_15 ?_
    refine lv_iload_n hx hb dX3_canBeHome_16 rfl (lv_at hl 2 rfl) ?_
    refine lv_iadd hx hb dX3_canBeHome_17 ?_
    obtain ⟨hg18, h⟩ := grd_some h
    refine va_iald (f := (vY 3)) hx hb hEN.1 hP 1 0 rfl rfl (inb_in hg18) dX3_canBeHome_18 ?_
    refine lv_iload_n hx hb dX3_canBeHome_19 rfl (lv_at hl 3 rfl) ?_
    refine lv_iushr (v := (ushr ((vY 3) (Int32.toNatClampNeg ((x1 * (7 : Int32)) + x2))) x3)) hx hb dX3_canBeHome_20 rfl ?_
    refine lv_iconst (v := (1 : Int32)) hx hb dX3_canBeHome_21 k_iconst_1 ?_
    refine lv_iand hx hb dX3_canBeHome_22 ?_
    refine lv_iconst (v := (1 : Int32)) hx hb dX3_canBeHome_23 k_iconst_1 ?_
    refine lv_icmp_ne (tgt := 31) hx hb dX3_canBeHome_24 (by decide) (fun c24 => ?_) (fun c24 => ?_)
    · have h := (if_neg c24).symm.trans h
      refine lv_iconst (v := (0 : Int32)) hx hb dX3_canBeHome_31 k_iconst_0 ?_
      have hres := Option.some.inj h
      subst hres
      exact hRet 32 nz0 _ _ _ hP hD hS dX3_canBeHome_32
    · have h := (if_pos c24).symm.trans h
      refine lv_iconst (v := (1 : Int32)) hx hb dX3_canBeHome_27 k_iconst_1 ?_
      refine lv_goto (tgt := 32) hx hb dX3_canBeHome_28 (by decide) ?_
      have hres := Option.some.inj h
      subst hres
      exact hRet 32 nz1 _ _ _ hP hD hS dX3_canBeHome_32
abbrev rm_X3_isWalkHomeward : Room := { frames := 3, cells := 0, slots := 0, locals := 67 }
theorem fi_X3_isWalkHomeward_X3 : ∀ w ∈ wsX30, w ∈ wsX3_isWalkHomeward := fun _ h => List.mem_cons_of_mem _ (List.mem_append_left _ (List.mem_append_left _ (List.mem_append_right _ h)))
theorem fi_X3_isWalkHomeward_X2 : ∀ w ∈ wsX20, w ∈ wsX3_isWalkHomeward := fun _ h => List.mem_cons_of_mem _ (List.mem_append_left _ (List.mem_append_right _ h))
theorem fi_X3_isWalkHomeward_X4 : ∀ w ∈ wsX40, w ∈ wsX3_isWalkHomeward := fun _ h => List.mem_cons_of_mem _ (List.mem_append_right _ h)
theorem hdV_X3_isWalkHomeward : yX3_isWalkHomeward.cls = RX3 ∧ yX3_isWalkHomeward.cls ≠ "java/lang/invoke/MethodHandle" ∧ yX3_isWalkHomeward.cls ≠ "java/lang/invoke/VarHandle" ∧ (parseMethodDescriptor yX3_isWalkHomeward.desc).map (fun d => d.parameters.length) = some 1 := by decide +kernel
set_option maxRecDepth 100000 in
set_option maxHeartbeats 4000000 in
theorem c_X3_isWalkHomeward (l : Launch) (G : va_G) (cI cZ : ClassId) (aY : Nat → Nat) (aW : Nat → Nat) (aS : Nat → Nat) (vY : Ob) (vW : Ob) (vS : Ob) (x1 : Int32) (res : Int32) (h : m_X3_isWalkHomeward vY vW vS x1 = some res) : Ct l yX3_isWalkHomeward wsX3_isWalkHomeward rm_X3_isWalkHomeward G cI cZ [.ref (aY 0), .int x1] [oX3 aY aW aS vY, ai cI (aY 3) 427 (vY 3), oX4 aW vW, ai cI (aW 5) 7 (vW 5), ai cI (aW 6) 7 (vW 6), ai cI (aW 7) 7 (vW 7), ai cI (aW 8) 9 (vW 8), ai cI (aW 9) 9 (vW 9), ai cI (aW 10) 9 (vW 10), oX2 aS vS] (some (.int res)) [oX3 aY aW aS vY, ai cI (aY 3) 427 (vY 3), oX4 aW vW, ai cI (aW 5) 7 (vW 5), ai cI (aW 6) 7 (vW 6), ai cI (aW 7) 7 (vW 7), ai cI (aW 8) 9 (vW 8), ai cI (aW 9) 9 (vW 9), ai cI (aW 10) 9 (vW 10), oX2 aS vS] := by
  refine Ct.of_z (maxL := 4) (by decide) rfl (Nat.le_of_ble_eq_true rfl) ?_
  intro p e s m below meth c args hx hb hml hown hts A hA hEN hP hD hS Q hRet ls hl
  have hown : s.vm.findClass RX3 = some m.cls := hown
  have hl : lv_has ls 4 [(0, .ref (aY 0)), (1, .int x1)] := hl
  unfold m_X3_isWalkHomeward at h
  refine lv_aload_n hx hb dX3_isWalkHomeward_0 rfl (lv_at hl 0 rfl) ?_
  refine va_get (D := G) (ci := 3) (v := .ref (aW 0)) (C := RX3) (T := TX3) (N := 14) hx hb hts fi_X3_isWalkHomeward_X3 hown hEN.1 hP 0 rfl rfl 0 (by decide) (hts (.fieldLink RX3 21 "HourWell$Ways" "world" "LHourWell$World;") (List.mem_of_getElem? (i := 1) rfl)) (fun _ h9 => h9) rfl dX3_isWalkHomeward_1 ?_
  refine lv_iload_n hx hb dX3_isWalkHomeward_4 rfl (lv_at hl 1 rfl) ?_
  refine lv_aload_n hx hb dX3_isWalkHomeward_5 rfl (lv_at hl 0 rfl) ?_
  refine va_get (D := G) (ci := 3) (v := .int (vY 0 11)) (C := RX3) (T := TX3) (N := 14) hx hb hts fi_X3_isWalkHomeward_X3 hown hEN.1 hP 0 rfl rfl 11 (by decide) (hts (.fieldLink RX3 93 "HourWell$Ways" "place" "I") (List.mem_of_getElem? (i := 2) rfl)) (fun _ h9 => h9) rfl dX3_isWalkHomeward_6 ?_
  obtain ⟨o9, ho9, h⟩ := bnd_some h
  refine call_V0 (As := [.int x1, .int (vY 0 11)]) (rest := []) ⟨hx, hb, hml, hown, hts⟩ (c_X4_farEnd l G cI cZ aW vW x1 (vY 0 11) o9 ho9) (cwV 2 hts gX3_isWalkHomeward_X4_farEnd rfl rfl rfl hdV_X4_farEnd ⟨Nat.le_of_ble_eq_true rfl, Nat.le_of_ble_eq_true rfl⟩) hEN hA hP hD hS [2, 6, 7] rfl (by decide) 2 rfl rfl rfl hl.1 rfl (Nat.le_of_ble_eq_true rfl) dX3_isWalkHomeward_9 ⟨Nat.le_of_ble_eq_true rfl, Nat.le_of_ble_eq_true rfl⟩ (fun H locs hP hS => ?_)
  refine lv_istore_n (lv' := [(2, .int o9), (0, .ref (aY 0)), (1, .int x1)]) hx hb dX3_isWalkHomeward_12 rfl hl (by decide) rfl (fun ls hl => ?_)
  refine lv_aload_n hx hb dX3_isWalkHomeward_13 rfl (lv_at hl 1 rfl) ?_
  refine va_get (D := G) (ci := 3) (v := .int (vY 0 12)) (C := RX3) (T := TX3) (N := 14) hx hb hts fi_X3_isWalkHomeward_X3 hown hEN.1 hP 0 rfl rfl 12 (by decide) (hts (.fieldLink RX3 98 "HourWell$Ways" "gone" "I") (List.mem_of_getElem? (i := 3) rfl)) (fun _ h9 => h9) rfl dX3_isWalkHomeward_14 ?_
  refine lv_aload_n hx hb dX3_isWalkHomeward_17 rfl (lv_at hl 1 rfl) ?_
  refine va_get (D := G) (ci := 3) (v := .ref (aW 0)) (C := RX3) (T := TX3) (N := 14) hx hb hts fi_X3_isWalkHomeward_X3 hown hEN.1 hP 0 rfl rfl 0 (by decide) (hts (.fieldLink RX3 21 "HourWell$Ways" "world" "LHourWell$World;") (List.mem_of_getElem? (i := 1) rfl)) (fun _ h9 => h9) rfl dX3_isWalkHomeward_18 ?_
  refine lv_iload_n hx hb dX3_isWalkHomeward_21 rfl (lv_at hl 2 rfl) ?_
  obtain ⟨o22, ho22, h⟩ := bnd_some h
  refine call_V0 (As := [.int x1]) (rest := [.int (vY 0 12)]) ⟨hx, hb, hml, hown, hts⟩ (c_X4_roadHours l G cI cZ aW vW x1 o22 ho22) (cwV 1 hts gX3_isWalkHomeward_X4_roadHours rfl rfl rfl hdV_X4_roadHours ⟨Nat.le_of_ble_eq_true rfl, Nat.le_of_ble_eq_true rfl⟩) hEN hA hP hD hS [2, 8] rfl (by decide) 2 rfl rfl rfl hl.1 rfl (Nat.le_of_ble_eq_true rfl) dX3_isWalkHomeward_22 ⟨Nat.le_of_ble_eq_true rfl, Nat.le_of_ble_eq_true rfl⟩ (fun H locs hP hS => ?_)
  refine lv_iadd hx hb dX3_isWalkHomeward_25 ?_
  refine lv_istore_n (lv' := [(3, .int ((vY 0 12) + o22)), (2, .int o9), (0, .ref (aY 0)), (1, .int x1)]) hx hb dX3_isWalkHomeward_26 rfl hl (by decide) rfl (fun ls hl => ?_)
  refine lv_iload_n hx hb dX3_isWalkHomeward_27 rfl (lv_at hl 1 rfl) ?_
  refine lv_bipush (v := (-9 : Int32)) hx hb dX3_isWalkHomeward_28 k_bipush_n9 ?_
  refine lv_icmp_eq (tgt := 82) hx hb dX3_isWalkHomeward_30 (by decide) (fun c30 => ?_) (fun c30 => ?_)
  · have h := (if_pos c30).symm.trans h
    refine lv_iconst (v := (0 : Int32)) hx hb dX3_isWalkHomeward_82 k_iconst_0 ?_
    have hres := Option.some.inj h
    subst hres
    exact hRet 83 nz0 _ _ _ hP hD hS dX3_isWalkHomeward_83
  · have h := (if_neg c30).symm.trans h
    refine lv_aload_n hx hb dX3_isWalkHomeward_33 rfl (lv_at hl 2 rfl) ?_
    refine va_get (D := G) (ci := 3) (v := .ref (aW 0)) (C := RX3) (T := TX3) (N := 14) hx hb hts fi_X3_isWalkHomeward_X3 hown hEN.1 hP 0 rfl rfl 0 (by decide) (hts (.fieldLink RX3 21 "HourWell$Ways" "world" "LHourWell$World;") (List.mem_of_getElem? (i := 1) rfl)) (fun _ h9 => h9) rfl dX3_isWalkHomeward_34 ?_
    refine lv_iload_n hx hb dX3_isWalkHomeward_37 rfl (lv_at hl 1 rfl) ?_
    refine lv_aload_n hx hb dX3_isWalkHomeward_38 rfl (lv_at hl 2 rfl) ?_
    refine va_get (D := G) (ci := 3) (v := .ref (aS 0)) (C := RX3) (T := TX3) (N := 14) hx hb hts fi_X3_isWalkHomeward_X3 hown hEN.1 hP 0 rfl rfl 1 (by decide) (hts (.fieldLink RX3 25 "HourWell$Ways" "son" "LHourWell$Son;") (List.mem_of_getElem? (i := 4) rfl)) (fun _ h9 => h9) rfl dX3_isWalkHomeward_39 ?_
    refine va_get (D := G) (ci := 2) (v := .int (vS 0 1)) (C := RX2) (T := TX2) (N := 8) hx hb hts fi_X3_isWalkHomeward_X2 hown hEN.1 hP 9 rfl rfl 1 (by decide) (hts (.fieldLink RX3 45 "HourWell$Son" "hour" "I") (List.mem_of_getElem? (i := 5) rfl)) (fun _ h9 => h9) rfl dX3_isWalkHomeward_42 ?_
    refine lv_iload_n hx hb dX3_isWalkHomeward_45 rfl (lv_at hl 0 rfl) ?_
    refine lv_iadd hx hb dX3_isWalkHomeward_46 ?_
    refine lv_aload_n hx hb dX3_isWalkHomeward_47 rfl (lv_at hl 2 rfl) ?_
    refine va_get (D := G) (ci := 3) (v := .int (vY 0 13)) (C := RX3) (T := TX3) (N := 14) hx hb hts fi_X3_isWalkHomeward_X3 hown hEN.1 hP 0 rfl rfl 13 (by decide) (hts (.fieldLink RX3 85 "HourWell$Ways" "things" "I") (List.mem_of_getElem? (i := 6) rfl)) (fun _ h9 => h9) rfl dX3_isWalkHomeward_48 ?_
    obtain ⟨o51, ho51, h⟩ := bnd_some h
    refine call_V0 (As := [.int o9, .int ((vS 0 1) + ((vY 0 12) + o22)), .int (vY 0 13)]) (rest := []) ⟨hx, hb, hml, hown, hts⟩ (c_X4_letsIn l G cI cZ aW vW o9 ((vS 0 1) + ((vY 0 12) + o22)) (vY 0 13) o51 ho51) (cwV 3 hts gX3_isWalkHomeward_X4_letsIn rfl rfl rfl hdV_X4_letsIn ⟨Nat.le_of_ble_eq_true rfl, Nat.le_of_ble_eq_true rfl⟩) hEN hA hP hD hS [2, 3, 4, 5] rfl (by decide) 2 rfl rfl rfl hl.1 rfl (Nat.le_of_ble_eq_true rfl) dX3_isWalkHomeward_51 ⟨Nat.le_of_ble_eq_true rfl, Nat.le_of_ble_eq_true rfl⟩ (fun H locs hP hS => ?_)
    refine lv_if_eq (tgt := 82) hx hb dX3_isWalkHomeward_54 (by decide) (fun c54 => ?_) (fun c54 => ?_)
    · have h := (if_pos c54).symm.trans h
      refine lv_iconst (v := (0 : Int32)) hx hb dX3_isWalkHomeward_82 k_iconst_0 ?_
      have hres := Option.some.inj h
      subst hres
      exact hRet 83 nz0 _ _ _ hP hD hS dX3_isWalkHomeward_83
    · have h := (if_neg c54).symm.trans h
      refine lv_aload_n hx hb dX3_isWalkHomeward_57 rfl (lv_at hl 2 rfl) ?_
      refine lv_iload_n hx hb dX3_isWalkHomeward_58 rfl (lv_at hl 0 rfl) ?_
      refine lv_iload_n hx hb dX3_isWalkHomeward_59 rfl (lv_at hl 1 rfl) ?_
      refine lv_aload_n hx hb dX3_isWalkHomeward_60 rfl (lv_at hl 2 rfl) ?_
      refine va_get (D := G) (ci := 3) (v := .ref (aW 0)) (C := RX3) (T := TX3) (N := 14) hx hb hts fi_X3_isWalkHomeward_X3 hown hEN.1 hP 0 rfl rfl 0 (by decide) (hts (.fieldLink RX3 21 "HourWell$Ways" "world" "LHourWell$World;") (List.mem_of_getElem? (i := 1) rfl)) (fun _ h9 => h9) rfl dX3_isWalkHomeward_61 ?_
      refine lv_iload_n hx hb dX3_isWalkHomeward_64 rfl (lv_at hl 1 rfl) ?_
      refine lv_aload_n hx hb dX3_isWalkHomeward_65 rfl (lv_at hl 2 rfl) ?_
      refine va_get (D := G) (ci := 3) (v := .int (vY 0 13)) (C := RX3) (T := TX3) (N := 14) hx hb hts fi_X3_isWalkHomeward_X3 hown hEN.1 hP 0 rfl rfl 13 (by decide) (hts (.fieldLink RX3 85 "HourWell$Ways" "things" "I") (List.mem_of_getElem? (i := 6) rfl)) (fun _ h9 => h9) rfl dX3_isWalkHomeward_66 ?_
      obtain ⟨o69, ho69, h⟩ := bnd_some h
      refine call_V0 (As := [.int o9, .int (vY 0 13)]) (rest := [.int o9, .int ((vY 0 12) + o22), .ref (aY 0)]) ⟨hx, hb, hml, hown, hts⟩ (c_X4_thingsInside l G cI cZ aW vW o9 (vY 0 13) o69 ho69) (cwV 2 hts gX3_isWalkHomeward_X4_thingsInside rfl rfl rfl hdV_X4_thingsInside ⟨Nat.le_of_ble_eq_true rfl, Nat.le_of_ble_eq_true rfl⟩) hEN hA hP hD hS [2, 3] rfl (by decide) 2 rfl rfl rfl hl.1 rfl (Nat.le_of_ble_eq_true rfl) dX3_isWalkHomeward_69 ⟨Nat.le_of_ble_eq_true rfl, Nat.le_of_ble_eq_true rfl⟩ (fun H locs hP hS => ?_)
      obtain ⟨o72, ho72, h⟩ := bnd_some h
      refine call_V0 (As := [.int ((vY 0 12) + o22), .int o9, .int o69]) (rest := []) ⟨hx, hb, hml, hown, hts⟩ (c_X3_canBeHome l G cI cZ aY aW aS vY ((vY 0 12) + o22) o9 o69 o72 ho72) (cwV 3 hts gX3_isWalkHomeward_X3_canBeHome rfl rfl rfl hdV_X3_canBeHome ⟨Nat.le_of_ble_eq_true rfl, Nat.le_of_ble_eq_true rfl⟩) hEN hA hP hD hS [0, 1] rfl (by decide) 0 rfl rfl rfl hl.1 rfl (Nat.le_of_ble_eq_true rfl) dX3_isWalkHomeward_72 ⟨Nat.le_of_ble_eq_true rfl, Nat.le_of_ble_eq_true rfl⟩ (fun H locs hP hS => ?_)
      refine lv_if_eq (tgt := 82) hx hb dX3_isWalkHomeward_75 (by decide) (fun c75 => ?_) (fun c75 => ?_)
      · have h := (if_pos c75).symm.trans h
        refine lv_iconst (v := (0 : Int32)) hx hb dX3_isWalkHomeward_82 k_iconst_0 ?_
        have hres := Option.some.inj h
        subst hres
        exact hRet 83 nz0 _ _ _ hP hD hS dX3_isWalkHomeward_83
      · have h := (if_neg c75).symm.trans h
        refine lv_iconst (v := (1 : Int32)) hx hb dX3_isWalkHomeward_78 k_iconst_1 ?_
        refine lv_goto (tgt := 83) hx hb dX3_isWalkHomeward_79 (by decide) ?_
        have hres := Option.some.inj h
        subst hres
        exact hRet 83 nz1 _ _ _ hP hD hS dX3_isWalkHomeward_83
abbrev rm_X3_isAskHomeward : Room := { frames := 3, cells := 0, slots := 0, locals := 64 }
theorem fi_X3_isAskHomeward_X3 : ∀ w ∈ wsX30, w ∈ wsX3_isAskHomeward := fun _ h => List.mem_cons_of_mem _ (List.mem_append_left _ (List.mem_append_right _ h))
theorem fi_X3_isAskHomeward_X4 : ∀ w ∈ wsX40, w ∈ wsX3_isAskHomeward := fun _ h => List.mem_cons_of_mem _ (List.mem_append_right _ h)
theorem hdV_X3_isAskHomeward : yX3_isAskHomeward.cls = RX3 ∧ yX3_isAskHomeward.cls ≠ "java/lang/invoke/MethodHandle" ∧ yX3_isAskHomeward.cls ≠ "java/lang/invoke/VarHandle" ∧ (parseMethodDescriptor yX3_isAskHomeward.desc).map (fun d => d.parameters.length) = some 1 := by decide +kernel
set_option maxRecDepth 100000 in
set_option maxHeartbeats 4000000 in
theorem c_X3_isAskHomeward (l : Launch) (G : va_G) (cI cZ : ClassId) (aY : Nat → Nat) (aW : Nat → Nat) (aS : Nat → Nat) (vY : Ob) (vW : Ob) (x1 : Int32) (res : Int32) (h : m_X3_isAskHomeward vY vW x1 = some res) : Ct l yX3_isAskHomeward wsX3_isAskHomeward rm_X3_isAskHomeward G cI cZ [.ref (aY 0), .int x1] [oX3 aY aW aS vY, ai cI (aY 3) 427 (vY 3), oX4 aW vW, ai cI (aW 11) 6 (vW 11), ai cI (aW 12) 6 (vW 12), ai cI (aW 13) 6 (vW 13)] (some (.int res)) [oX3 aY aW aS vY, ai cI (aY 3) 427 (vY 3), oX4 aW vW, ai cI (aW 11) 6 (vW 11), ai cI (aW 12) 6 (vW 12), ai cI (aW 13) 6 (vW 13)] := by
  refine Ct.of_z (maxL := 2) (by decide) rfl (Nat.le_of_ble_eq_true rfl) ?_
  intro p e s m below meth c args hx hb hml hown hts A hA hEN hP hD hS Q hRet ls hl
  have hown : s.vm.findClass RX3 = some m.cls := hown
  have hl : lv_has ls 2 [(0, .ref (aY 0)), (1, .int x1)] := hl
  unfold m_X3_isAskHomeward at h
  refine lv_aload_n hx hb dX3_isAskHomeward_0 rfl (lv_at hl 0 rfl) ?_
  refine va_get (D := G) (ci := 3) (v := .ref (aW 0)) (C := RX3) (T := TX3) (N := 14) hx hb hts fi_X3_isAskHomeward_X3 hown hEN.1 hP 0 rfl rfl 0 (by decide) (hts (.fieldLink RX3 21 "HourWell$Ways" "world" "LHourWell$World;") (List.mem_of_getElem? (i := 1) rfl)) (fun _ h9 => h9) rfl dX3_isAskHomeward_1 ?_
  refine lv_iload_n hx hb dX3_isAskHomeward_4 rfl (lv_at hl 1 rfl) ?_
  refine lv_aload_n hx hb dX3_isAskHomeward_5 rfl (lv_at hl 0 rfl) ?_
  refine va_get (D := G) (ci := 3) (v := .int (vY 0 11)) (C := RX3) (T := TX3) (N := 14) hx hb hts fi_X3_isAskHomeward_X3 hown hEN.1 hP 0 rfl rfl 11 (by decide) (hts (.fieldLink RX3 93 "HourWell$Ways" "place" "I") (List.mem_of_getElem? (i := 2) rfl)) (fun _ h9 => h9) rfl dX3_isAskHomeward_6 ?_
  refine lv_aload_n hx hb dX3_isAskHomeward_9 rfl (lv_at hl 0 rfl) ?_
  refine va_get (D := G) (ci := 3) (v := .int (vY 0 13)) (C := RX3) (T := TX3) (N := 14) hx hb hts fi_X3_isAskHomeward_X3 hown hEN.1 hP 0 rfl rfl 13 (by decide) (hts (.fieldLink RX3 85 "HourWell$Ways" "things" "I") (List.mem_of_getElem? (i := 3) rfl)) (fun _ h9 => h9) rfl dX3_isAskHomeward_10 ?_
  obtain ⟨o13, ho13, h⟩ := bnd_some h
  refine call_V0 (As := [.int x1, .int (vY 0 11), .int (vY 0 13)]) (rest := []) ⟨hx, hb, hml, hown, hts⟩ (c_X4_isGiven l G cI cZ aW vW x1 (vY 0 11) (vY 0 13) o13 ho13) (cwV 3 hts gX3_isAskHomeward_X4_isGiven rfl rfl rfl hdV_X4_isGiven ⟨Nat.le_of_ble_eq_true rfl, Nat.le_of_ble_eq_true rfl⟩) hEN hA hP hD hS [2, 3, 4, 5] rfl (by decide) 2 rfl rfl rfl hl.1 rfl (Nat.le_of_ble_eq_true rfl) dX3_isAskHomeward_13 ⟨Nat.le_of_ble_eq_true rfl, Nat.le_of_ble_eq_true rfl⟩ (fun H locs hP hS => ?_)
  refine lv_if_eq (tgt := 53) hx hb dX3_isAskHomeward_16 (by decide) (fun c16 => ?_) (fun c16 => ?_)
  · have h := (if_pos c16).symm.trans h
    refine lv_iconst (v := (0 : Int32)) hx hb dX3_isAskHomeward_53 k_iconst_0 ?_
    have hres := Option.some.inj h
    subst hres
    exact hRet 54 nz0 _ _ _ hP hD hS dX3_isAskHomeward_54
  · have h := (if_neg c16).symm.trans h
    refine lv_aload_n hx hb dX3_isAskHomeward_19 rfl (lv_at hl 0 rfl) ?_
    refine lv_aload_n hx hb dX3_isAskHomeward_20 rfl (lv_at hl 0 rfl) ?_
    refine va_get (D := G) (ci := 3) (v := .int (vY 0 12)) (C := RX3) (T := TX3) (N := 14) hx hb hts fi_X3_isAskHomeward_X3 hown hEN.1 hP 0 rfl rfl 12 (by decide) (hts (.fieldLink RX3 98 "HourWell$Ways" "gone" "I") (List.mem_of_getElem? (i := 4) rfl)) (fun _ h9 => h9) rfl dX3_isAskHomeward_21 ?_
    refine lv_aload_n hx hb dX3_isAskHomeward_24 rfl (lv_at hl 0 rfl) ?_
    refine va_get (D := G) (ci := 3) (v := .int (vY 0 11)) (C := RX3) (T := TX3) (N := 14) hx hb hts fi_X3_isAskHomeward_X3 hown hEN.1 hP 0 rfl rfl 11 (by decide) (hts (.fieldLink RX3 93 "HourWell$Ways" "place" "I") (List.mem_of_getElem? (i := 2) rfl)) (fun _ h9 => h9) rfl dX3_isAskHomeward_25 ?_
    refine lv_aload_n hx hb dX3_isAskHomeward_28 rfl (lv_at hl 0 rfl) ?_
    refine va_get (D := G) (ci := 3) (v := .int (vY 0 13)) (C := RX3) (T := TX3) (N := 14) hx hb hts fi_X3_isAskHomeward_X3 hown hEN.1 hP 0 rfl rfl 13 (by decide) (hts (.fieldLink RX3 85 "HourWell$Ways" "things" "I") (List.mem_of_getElem? (i := 3) rfl)) (fun _ h9 => h9) rfl dX3_isAskHomeward_29 ?_
    refine lv_iconst (v := (1 : Int32)) hx hb dX3_isAskHomeward_32 k_iconst_1 ?_
    refine lv_aload_n hx hb dX3_isAskHomeward_33 rfl (lv_at hl 0 rfl) ?_
    refine va_get (D := G) (ci := 3) (v := .ref (aW 0)) (C := RX3) (T := TX3) (N := 14) hx hb hts fi_X3_isAskHomeward_X3 hown hEN.1 hP 0 rfl rfl 0 (by decide) (hts (.fieldLink RX3 21 "HourWell$Ways" "world" "LHourWell$World;") (List.mem_of_getElem? (i := 1) rfl)) (fun _ h9 => h9) rfl dX3_isAskHomeward_34 ?_
    refine lv_iload_n hx hb dX3_isAskHomeward_37 rfl (lv_at hl 1 rfl) ?_
    obtain ⟨o38, ho38, h⟩ := bnd_some h
    refine call_V0 (As := [.int x1]) (rest := [.int (1 : Int32), .int (vY 0 13), .int (vY 0 11), .int (vY 0 12), .ref (aY 0)]) ⟨hx, hb, hml, hown, hts⟩ (c_X4_hostGives l G cI cZ aW vW x1 o38 ho38) (cwV 1 hts gX3_isAskHomeward_X4_hostGives rfl rfl rfl hdV_X4_hostGives ⟨Nat.le_of_ble_eq_true rfl, Nat.le_of_ble_eq_true rfl⟩) hEN hA hP hD hS [2, 4] rfl (by decide) 2 rfl rfl rfl hl.1 rfl (Nat.le_of_ble_eq_true rfl) dX3_isAskHomeward_38 ⟨Nat.le_of_ble_eq_true rfl, Nat.le_of_ble_eq_true rfl⟩ (fun H locs hP hS => ?_)
    refine lv_ishl hx hb dX3_isAskHomeward_41 ?_
    refine lv_ior hx hb dX3_isAskHomeward_42 ?_
    obtain ⟨o43, ho43, h⟩ := bnd_some h
    refine call_V0 (As := [.int (vY 0 12), .int (vY 0 11), .int ((vY 0 13) ||| ((1 : Int32) <<< (o38 &&& 31)))]) (rest := []) ⟨hx, hb, hml, hown, hts⟩ (c_X3_canBeHome l G cI cZ aY aW aS vY (vY 0 12) (vY 0 11) ((vY 0 13) ||| ((1 : Int32) <<< (o38 &&& 31))) o43 ho43) (cwV 3 hts gX3_isAskHomeward_X3_canBeHome rfl rfl rfl hdV_X3_canBeHome ⟨Nat.le_of_ble_eq_true rfl, Nat.le_of_ble_eq_true rfl⟩) hEN hA hP hD hS [0, 1] rfl (by decide) 0 rfl rfl rfl hl.1 rfl (Nat.le_of_ble_eq_true rfl) dX3_isAskHomeward_43 ⟨Nat.le_of_ble_eq_true rfl, Nat.le_of_ble_eq_true rfl⟩ (fun H locs hP hS => ?_)
    refine lv_if_eq (tgt := 53) hx hb dX3_isAskHomeward_46 (by decide) (fun c46 => ?_) (fun c46 => ?_)
    · have h := (if_pos c46).symm.trans h
      refine lv_iconst (v := (0 : Int32)) hx hb dX3_isAskHomeward_53 k_iconst_0 ?_
      have hres := Option.some.inj h
      subst hres
      exact hRet 54 nz0 _ _ _ hP hD hS dX3_isAskHomeward_54
    · have h := (if_neg c46).symm.trans h
      refine lv_iconst (v := (1 : Int32)) hx hb dX3_isAskHomeward_49 k_iconst_1 ?_
      refine lv_goto (tgt := 54) hx hb dX3_isAskHomeward_50 (by decide) ?_
      have hres := Option.some.inj h
      subst hres
      exact hRet 54 nz1 _ _ _ hP hD hS dX3_isAskHomeward_54
abbrev rm_X3_nextStep : Room := { frames := 4, cells := 0, slots := 0, locals := 90 }
theorem fi_X3_nextStep_X3 : ∀ w ∈ wsX30, w ∈ wsX3_nextStep := fun _ h => List.mem_cons_of_mem _ (List.mem_append_left _ (List.mem_append_left _ (List.mem_append_right _ h)))
theorem fi_X3_nextStep_X4 : ∀ w ∈ wsX40, w ∈ wsX3_nextStep := fun _ h => List.mem_cons_of_mem _ (List.mem_append_left _ (List.mem_append_right _ h))
theorem fi_X3_nextStep_X2 : ∀ w ∈ wsX20, w ∈ wsX3_nextStep := fun _ h => List.mem_cons_of_mem _ (List.mem_append_right _ h)
theorem hdV_X3_nextStep : yX3_nextStep.cls = RX3 ∧ yX3_nextStep.cls ≠ "java/lang/invoke/MethodHandle" ∧ yX3_nextStep.cls ≠ "java/lang/invoke/VarHandle" ∧ (parseMethodDescriptor yX3_nextStep.desc).map (fun d => d.parameters.length) = some 0 := by decide +kernel
set_option maxRecDepth 100000 in
set_option maxHeartbeats 4000000 in
theorem c_X3_nextStep (l : Launch) (G : va_G) (cI cZ : ClassId) (aY : Nat → Nat) (aW : Nat → Nat) (aS : Nat → Nat) (vY : Ob) (vW : Ob) (vS : Ob)  (res : Int32) (h : m_X3_nextStep vY vW vS  = some res) : Ct l yX3_nextStep wsX3_nextStep rm_X3_nextStep G cI cZ [.ref (aY 0)] [oX3 aY aW aS vY, ai cI (aY 3) 427 (vY 3), oX4 aW vW, ai cI (aW 5) 7 (vW 5), ai cI (aW 6) 7 (vW 6), ai cI (aW 7) 7 (vW 7), ai cI (aW 8) 9 (vW 8), ai cI (aW 9) 9 (vW 9), ai cI (aW 10) 9 (vW 10), ai cI (aW 11) 6 (vW 11), ai cI (aW 12) 6 (vW 12), ai cI (aW 13) 6 (vW 13), oX2 aS vS] (some (.int res)) [oX3 aY aW aS vY, ai cI (aY 3) 427 (vY 3), oX4 aW vW, ai cI (aW 5) 7 (vW 5), ai cI (aW 6) 7 (vW 6), ai cI (aW 7) 7 (vW 7), ai cI (aW 8) 9 (vW 8), ai cI (aW 9) 9 (vW 9), ai cI (aW 10) 9 (vW 10), ai cI (aW 11) 6 (vW 11), ai cI (aW 12) 6 (vW 12), ai cI (aW 13) 6 (vW 13), oX2 aS vS] := by
  refine Ct.of_i (maxL := 2) (by decide) rfl (Nat.le_of_ble_eq_true rfl) ?_
  intro p e s m below meth c args hx hb hml hown hts A hA hEN hP hD hS Q hRet ls hl
  have hown : s.vm.findClass RX3 = some m.cls := hown
  have hl : lv_has ls 2 [(0, .ref (aY 0))] := hl
  have L49 : ∀ (out : (Int32) ⊕ (Unit)), (∀ r : Int32, out = Sum.inl r → r = res) → (∀ ex : Unit, out = Sum.inr ex → ∀ (H : Heap) (locs : List Loc) (ls : Array Slot), va_P G vwCl [oX3 aY aW aS vY, ai cI (aY 3) 427 (vY 3), oX4 aW vW, ai cI (aW 5) 7 (vW 5), ai cI (aW 6) 7 (vW 6), ai cI (aW 7) 7 (vW 7), ai cI (aW 8) 9 (vW 8), ai cI (aW 9) 9 (vW 9), ai cI (aW 10) 9 (vW 10), ai cI (aW 11) 6 (vW 11), ai cI (aW 12) 6 (vW 12), ai cI (aW 13) 6 (vW 13), oX2 aS vS] H → va_D A [oX3 aY aW aS vY, ai cI (aY 3) 427 (vY 3), oX4 aW vW, ai cI (aW 5) 7 (vW 5), ai cI (aW 6) 7 (vW 6), ai cI (aW 7) 7 (vW 7), ai cI (aW 8) 9 (vW 8), ai cI (aW 9) 9 (vW 9), ai cI (aW 10) 9 (vW 10), ai cI (aW 11) 6 (vW 11), ai cI (aW 12) 6 (vW 12), ai cI (aW 13) 6 (vW 13), oX2 aS vS] → va_S A s.heap H locs → lv_has ls 2 [(0, .ref (aY 0))] → W p l e rm_X3_nextStep s m args below meth c H locs 0 0 Q (F0 m 78 ls [])) → ∀ (n : Nat) (x1 : Int32), m_X3_nextStep_L49 vY vW vS n x1 = some out → ∀ (H : Heap) (locs : List Loc) (ls : Array Slot), va_P G vwCl [oX3 aY aW aS vY, ai cI (aY 3) 427 (vY 3), oX4 aW vW, ai cI (aW 5) 7 (vW 5), ai cI (aW 6) 7 (vW 6), ai cI (aW 7) 7 (vW 7), ai cI (aW 8) 9 (vW 8), ai cI (aW 9) 9 (vW 9), ai cI (aW 10) 9 (vW 10), ai cI (aW 11) 6 (vW 11), ai cI (aW 12) 6 (vW 12), ai cI (aW 13) 6 (vW 13), oX2 aS vS] H → va_D A [oX3 aY aW aS vY, ai cI (aY 3) 427 (vY 3), oX4 aW vW, ai cI (aW 5) 7 (vW 5), ai cI (aW 6) 7 (vW 6), ai cI (aW 7) 7 (vW 7), ai cI (aW 8) 9 (vW 8), ai cI (aW 9) 9 (vW 9), ai cI (aW 10) 9 (vW 10), ai cI (aW 11) 6 (vW 11), ai cI (aW 12) 6 (vW 12), ai cI (aW 13) 6 (vW 13), oX2 aS vS] → va_S A s.heap H locs → lv_has ls 2 [(0, .ref (aY 0)), (1, .int x1)] → W p l e rm_X3_nextStep s m args below meth c H locs 0 0 Q (F0 m 49 ls []) := by
    intro out hKr hKx
    intro n
    induction n with
    | zero => intro x1 h; exact nomatch (show (none : Option ((Int32) ⊕ (Unit))) = some out from h)
    | succ n hrc =>
      intro x1 h H locs ls hP hD hS hl
      have h : m_X3_nextStep_L49B vY vW vS (m_X3_nextStep_L49 vY vW vS n) x1 = some out := h
      generalize m_X3_nextStep_L49 vY vW vS n = rc at h hrc
      unfold m_X3_nextStep_L49B at h
      refine lv_iload_n hx hb dX3_nextStep_49 rfl (lv_at hl 1 rfl) ?_
      refine lv_aload_n hx hb dX3_nextStep_50 rfl (lv_at hl 0 rfl) ?_
      refine va_get (D := G) (ci := 3) (v := .ref (aW 0)) (C := RX3) (T := TX3) (N := 14) hx hb hts fi_X3_nextStep_X3 hown hEN.1 hP 0 rfl rfl 0 (by decide) (hts (.fieldLink RX3 21 "HourWell$Ways" "world" "LHourWell$World;") (List.mem_of_getElem? (i := 5) rfl)) (fun _ h9 => h9) rfl dX3_nextStep_51 ?_
      refine va_get (D := G) (ci := 4) (v := .int (vW 0 1)) (C := RX4) (T := TX4) (N := 13) hx hb hts fi_X3_nextStep_X4 hown hEN.1 hP 2 rfl rfl 1 (by decide) (hts (.fieldLink RX3 104 "HourWell$World" "roads" "I") (List.mem_of_getElem? (i := 6) rfl)) (fun _ h9 => h9) rfl dX3_nextStep_54 ?_
      refine lv_icmp_ge (tgt := 78) hx hb dX3_nextStep_57 (by decide) (fun c57 => ?_) (fun c57 => ?_)
      · have h := (if_pos c57).symm.trans h
        exact hKx _ (Option.some.inj h).symm _ _ _ hP hD hS (lv_sub hl [0] rfl)
      · have h := (if_neg c57).symm.trans h
        refine lv_aload_n hx hb dX3_nextStep_60 rfl (lv_at hl 0 rfl) ?_
        refine lv_iload_n hx hb dX3_nextStep_61 rfl (lv_at hl 1 rfl) ?_
        obtain ⟨o62, ho62, h⟩ := bnd_some h
        refine call_V0 (As := [.int x1]) (rest := []) ⟨hx, hb, hml, hown, hts⟩ (c_X3_isWalkHomeward l G cI cZ aY aW aS vY vW vS x1 o62 ho62) (cwV 1 hts gX3_nextStep_X3_isWalkHomeward rfl rfl rfl hdV_X3_isWalkHomeward ⟨Nat.le_of_ble_eq_true rfl, Nat.le_of_ble_eq_true rfl⟩) hEN hA hP hD hS [0, 1, 2, 3, 4, 5, 6, 7, 8, 12] rfl (by decide) 0 rfl rfl rfl hl.1 rfl (Nat.le_of_ble_eq_true rfl) dX3_nextStep_62 ⟨Nat.le_of_ble_eq_true rfl, Nat.le_of_ble_eq_true rfl⟩ (fun H locs hP hS => ?_)
        refine lv_if_eq (tgt := 72) hx hb dX3_nextStep_65 (by decide) (fun c65 => ?_) (fun c65 => ?_)
        · have h := (if_pos c65).symm.trans h
          refine lv_iinc (v := (x1 + (1 : Int32))) (lv' := [(1, .int (x1 + (1 : Int32))), (0, .ref (aY 0))]) hx hb dX3_nextStep_72 hl (k := 1) rfl (congrArg (fun z => x1 + z) k_iconst_1) (by decide) rfl (fun ls hl => ?_)
          refine lv_goto (tgt := 49) hx hb dX3_nextStep_75 (by decide) ?_
          exact hrc (x1 + (1 : Int32)) h _ _ _ hP hD hS (lv_sub hl [1, 0] rfl)
        · have h := (if_neg c65).symm.trans h
          refine lv_iconst (v := (1 : Int32)) hx hb dX3_nextStep_68 k_iconst_1 ?_
          refine lv_iload_n hx hb dX3_nextStep_69 rfl (lv_at hl 1 rfl) ?_
          refine lv_iadd hx hb dX3_nextStep_70 ?_
          have hres := hKr _ (Option.some.inj h).symm
          subst hres
          exact hRet 71 _ _ _ hP hD hS dX3_nextStep_71
  have L80 : ∀ (out : (Int32) ⊕ (Unit)), (∀ r : Int32, out = Sum.inl r → r = res) → (∀ ex : Unit, out = Sum.inr ex → ∀ (H : Heap) (locs : List Loc) (ls : Array Slot), va_P G vwCl [oX3 aY aW aS vY, ai cI (aY 3) 427 (vY 3), oX4 aW vW, ai cI (aW 5) 7 (vW 5), ai cI (aW 6) 7 (vW 6), ai cI (aW 7) 7 (vW 7), ai cI (aW 8) 9 (vW 8), ai cI (aW 9) 9 (vW 9), ai cI (aW 10) 9 (vW 10), ai cI (aW 11) 6 (vW 11), ai cI (aW 12) 6 (vW 12), ai cI (aW 13) 6 (vW 13), oX2 aS vS] H → va_D A [oX3 aY aW aS vY, ai cI (aY 3) 427 (vY 3), oX4 aW vW, ai cI (aW 5) 7 (vW 5), ai cI (aW 6) 7 (vW 6), ai cI (aW 7) 7 (vW 7), ai cI (aW 8) 9 (vW 8), ai cI (aW 9) 9 (vW 9), ai cI (aW 10) 9 (vW 10), ai cI (aW 11) 6 (vW 11), ai cI (aW 12) 6 (vW 12), ai cI (aW 13) 6 (vW 13), oX2 aS vS] → va_S A s.heap H locs → lv_has ls 2 [] → W p l e rm_X3_nextStep s m args below meth c H locs 0 0 Q (F0 m 110 ls [])) → ∀ (n : Nat) (x1 : Int32), m_X3_nextStep_L80 vY vW vS n x1 = some out → ∀ (H : Heap) (locs : List Loc) (ls : Array Slot), va_P G vwCl [oX3 aY aW aS vY, ai cI (aY 3) 427 (vY 3), oX4 aW vW, ai cI (aW 5) 7 (vW 5), ai cI (aW 6) 7 (vW 6), ai cI (aW 7) 7 (vW 7), ai cI (aW 8) 9 (vW 8), ai cI (aW 9) 9 (vW 9), ai cI (aW 10) 9 (vW 10), ai cI (aW 11) 6 (vW 11), ai cI (aW 12) 6 (vW 12), ai cI (aW 13) 6 (vW 13), oX2 aS vS] H → va_D A [oX3 aY aW aS vY, ai cI (aY 3) 427 (vY 3), oX4 aW vW, ai cI (aW 5) 7 (vW 5), ai cI (aW 6) 7 (vW 6), ai cI (aW 7) 7 (vW 7), ai cI (aW 8) 9 (vW 8), ai cI (aW 9) 9 (vW 9), ai cI (aW 10) 9 (vW 10), ai cI (aW 11) 6 (vW 11), ai cI (aW 12) 6 (vW 12), ai cI (aW 13) 6 (vW 13), oX2 aS vS] → va_S A s.heap H locs → lv_has ls 2 [(0, .ref (aY 0)), (1, .int x1)] → W p l e rm_X3_nextStep s m args below meth c H locs 0 0 Q (F0 m 80 ls []) := by
    intro out hKr hKx
    intro n
    induction n with
    | zero => intro x1 h; exact nomatch (show (none : Option ((Int32) ⊕ (Unit))) = some out from h)
    | succ n hrc =>
      intro x1 h H locs ls hP hD hS hl
      have h : m_X3_nextStep_L80B vY vW vS (m_X3_nextStep_L80 vY vW vS n) x1 = some out := h
      generalize m_X3_nextStep_L80 vY vW vS n = rc at h hrc
      unfold m_X3_nextStep_L80B at h
      refine lv_iload_n hx hb dX3_nextStep_80 rfl (lv_at hl 1 rfl) ?_
      refine lv_aload_n hx hb dX3_nextStep_81 rfl (lv_at hl 0 rfl) ?_
      refine va_get (D := G) (ci := 3) (v := .ref (aW 0)) (C := RX3) (T := TX3) (N := 14) hx hb hts fi_X3_nextStep_X3 hown hEN.1 hP 0 rfl rfl 0 (by decide) (hts (.fieldLink RX3 21 "HourWell$Ways" "world" "LHourWell$World;") (List.mem_of_getElem? (i := 5) rfl)) (fun _ h9 => h9) rfl dX3_nextStep_82 ?_
      refine va_get (D := G) (ci := 4) (v := .int (vW 0 2)) (C := RX4) (T := TX4) (N := 13) hx hb hts fi_X3_nextStep_X4 hown hEN.1 hP 2 rfl rfl 2 (by decide) (hts (.fieldLink RX3 109 "HourWell$World" "hosts" "I") (List.mem_of_getElem? (i := 7) rfl)) (fun _ h9 => h9) rfl dX3_nextStep_85 ?_
      refine lv_icmp_ge (tgt := 110) hx hb dX3_nextStep_88 (by decide) (fun c88 => ?_) (fun c88 => ?_)
      · have h := (if_pos c88).symm.trans h
        exact hKx _ (Option.some.inj h).symm _ _ _ hP hD hS (lv_sub hl [] rfl)
      · have h := (if_neg c88).symm.trans h
        refine lv_aload_n hx hb dX3_nextStep_91 rfl (lv_at hl 0 rfl) ?_
        refine lv_iload_n hx hb dX3_nextStep_92 rfl (lv_at hl 1 rfl) ?_
        obtain ⟨o93, ho93, h⟩ := bnd_some h
        refine call_V0 (As := [.int x1]) (rest := []) ⟨hx, hb, hml, hown, hts⟩ (c_X3_isAskHomeward l G cI cZ aY aW aS vY vW x1 o93 ho93) (cwV 1 hts gX3_nextStep_X3_isAskHomeward rfl rfl rfl hdV_X3_isAskHomeward ⟨Nat.le_of_ble_eq_true rfl, Nat.le_of_ble_eq_true rfl⟩) hEN hA hP hD hS [0, 1, 2, 9, 10, 11] rfl (by decide) 0 rfl rfl rfl hl.1 rfl (Nat.le_of_ble_eq_true rfl) dX3_nextStep_93 ⟨Nat.le_of_ble_eq_true rfl, Nat.le_of_ble_eq_true rfl⟩ (fun H locs hP hS => ?_)
        refine lv_if_eq (tgt := 104) hx hb dX3_nextStep_96 (by decide) (fun c96 => ?_) (fun c96 => ?_)
        · have h := (if_pos c96).symm.trans h
          refine lv_iinc (v := (x1 + (1 : Int32))) (lv' := [(1, .int (x1 + (1 : Int32))), (0, .ref (aY 0))]) hx hb dX3_nextStep_104 hl (k := 1) rfl (congrArg (fun z => x1 + z) k_iconst_1) (by decide) rfl (fun ls hl => ?_)
          refine lv_goto (tgt := 80) hx hb dX3_nextStep_107 (by decide) ?_
          exact hrc (x1 + (1 : Int32)) h _ _ _ hP hD hS (lv_sub hl [1, 0] rfl)
        · have h := (if_neg c96).symm.trans h
          refine lv_bipush (v := (11 : Int32)) hx hb dX3_nextStep_99 k_bipush_11 ?_
          refine lv_iload_n hx hb dX3_nextStep_101 rfl (lv_at hl 1 rfl) ?_
          refine lv_iadd hx hb dX3_nextStep_102 ?_
          have hres := hKr _ (Option.some.inj h).symm
          subst hres
          exact hRet 103 _ _ _ hP hD hS dX3_nextStep_103
  have j24 : m_X3_nextStep_j24 vY vW vS  = some res → ∀ (H : Heap) (locs : List Loc) (ls : Array Slot), va_P G vwCl [oX3 aY aW aS vY, ai cI (aY 3) 427 (vY 3), oX4 aW vW, ai cI (aW 5) 7 (vW 5), ai cI (aW 6) 7 (vW 6), ai cI (aW 7) 7 (vW 7), ai cI (aW 8) 9 (vW 8), ai cI (aW 9) 9 (vW 9), ai cI (aW 10) 9 (vW 10), ai cI (aW 11) 6 (vW 11), ai cI (aW 12) 6 (vW 12), ai cI (aW 13) 6 (vW 13), oX2 aS vS] H → va_D A [oX3 aY aW aS vY, ai cI (aY 3) 427 (vY 3), oX4 aW vW, ai cI (aW 5) 7 (vW 5), ai cI (aW 6) 7 (vW 6), ai cI (aW 7) 7 (vW 7), ai cI (aW 8) 9 (vW 8), ai cI (aW 9) 9 (vW 9), ai cI (aW 10) 9 (vW 10), ai cI (aW 11) 6 (vW 11), ai cI (aW 12) 6 (vW 12), ai cI (aW 13) 6 (vW 13), oX2 aS vS] → va_S A s.heap H locs → lv_has ls 2 [(0, .ref (aY 0))] → W p l e rm_X3_nextStep s m args below meth c H locs 0 0 Q (F0 m 24 ls []) := by
    intro  h H locs ls hP hD hS hl
    unfold m_X3_nextStep_j24 at h
    refine lv_aload_n hx hb dX3_nextStep_24 rfl (lv_at hl 0 rfl) ?_
    refine lv_aload_n hx hb dX3_nextStep_25 rfl (lv_at hl 0 rfl) ?_
    refine va_get (D := G) (ci := 3) (v := .int (vY 0 12)) (C := RX3) (T := TX3) (N := 14) hx hb hts fi_X3_nextStep_X3 hown hEN.1 hP 0 rfl rfl 12 (by decide) (hts (.fieldLink RX3 98 "HourWell$Ways" "gone" "I") (List.mem_of_getElem? (i := 4) rfl)) (fun _ h9 => h9) rfl dX3_nextStep_26 ?_
    refine lv_iconst (v := (1 : Int32)) hx hb dX3_nextStep_29 k_iconst_1 ?_
    refine lv_iadd hx hb dX3_nextStep_30 ?_
    refine lv_aload_n hx hb dX3_nextStep_31 rfl (lv_at hl 0 rfl) ?_
    refine va_get (D := G) (ci := 3) (v := .int (vY 0 11)) (C := RX3) (T := TX3) (N := 14) hx hb hts fi_X3_nextStep_X3 hown hEN.1 hP 0 rfl rfl 11 (by decide) (hts (.fieldLink RX3 93 "HourWell$Ways" "place" "I") (List.mem_of_getElem? (i := 1) rfl)) (fun _ h9 => h9) rfl dX3_nextStep_32 ?_
    refine lv_aload_n hx hb dX3_nextStep_35 rfl (lv_at hl 0 rfl) ?_
    refine va_get (D := G) (ci := 3) (v := .int (vY 0 13)) (C := RX3) (T := TX3) (N := 14) hx hb hts fi_X3_nextStep_X3 hown hEN.1 hP 0 rfl rfl 13 (by decide) (hts (.fieldLink RX3 85 "HourWell$Ways" "things" "I") (List.mem_of_getElem? (i := 2) rfl)) (fun _ h9 => h9) rfl dX3_nextStep_36 ?_
    obtain ⟨o39, ho39, h⟩ := bnd_some h
    refine call_V0 (As := [.int ((vY 0 12) + (1 : Int32)), .int (vY 0 11), .int (vY 0 13)]) (rest := []) ⟨hx, hb, hml, hown, hts⟩ (c_X3_canBeHome l G cI cZ aY aW aS vY ((vY 0 12) + (1 : Int32)) (vY 0 11) (vY 0 13) o39 ho39) (cwV 3 hts gX3_nextStep_X3_canBeHome rfl rfl rfl hdV_X3_canBeHome ⟨Nat.le_of_ble_eq_true rfl, Nat.le_of_ble_eq_true rfl⟩) hEN hA hP hD hS [0, 1] rfl (by decide) 0 rfl rfl rfl hl.1 rfl (Nat.le_of_ble_eq_true rfl) dX3_nextStep_39 ⟨Nat.le_of_ble_eq_true rfl, Nat.le_of_ble_eq_true rfl⟩ (fun H locs hP hS => ?_)
    refine lv_if_eq (tgt := 47) hx hb dX3_nextStep_42 (by decide) (fun c42 => ?_) (fun c42 => ?_)
    · have h := (if_pos c42).symm.trans h
      refine lv_iconst (v := (0 : Int32)) hx hb dX3_nextStep_47 k_iconst_0 ?_
      refine lv_istore_n (lv' := [(1, .int (0 : Int32)), (0, .ref (aY 0))]) hx hb dX3_nextStep_48 rfl hl (by decide) rfl (fun ls hl => ?_)
      obtain ⟨o49_1, ho49_1, h⟩ := bnd_some h
      refine L49 o49_1 (fun r er => ?_) (fun o49_1x er H locs ls hP hD hS hl => ?_) FU (0 : Int32) ho49_1 _ _ _ hP hD hS (lv_sub hl [1, 0] rfl)
      · subst er
        have h := (sm_l _ _ _).symm.trans h
        exact Option.some.inj h
      · subst er
        have h := (sm_r _ _ _).symm.trans h
        refine lv_iconst (v := (0 : Int32)) hx hb dX3_nextStep_78 k_iconst_0 ?_
        refine lv_istore_n (lv' := [(1, .int (0 : Int32)), (0, .ref (aY 0))]) hx hb dX3_nextStep_79 rfl hl (by decide) rfl (fun ls hl => ?_)
        obtain ⟨o80_2, ho80_2, h⟩ := bnd_some h
        refine L80 o80_2 (fun r er => ?_) (fun o80_2x er H locs ls hP hD hS hl => ?_) FU (0 : Int32) ho80_2 _ _ _ hP hD hS (lv_sub hl [1, 0] rfl)
        · subst er
          have h := (sm_l _ _ _).symm.trans h
          exact Option.some.inj h
        · subst er
          have h := (sm_r _ _ _).symm.trans h
          refine lv_bipush (v := (-9 : Int32)) hx hb dX3_nextStep_110 k_bipush_n9 ?_
          have hres := Option.some.inj h
          subst hres
          exact hRet 112 _ _ _ hP hD hS dX3_nextStep_112
    · have h := (if_neg c42).symm.trans h
      refine lv_iconst (v := (0 : Int32)) hx hb dX3_nextStep_45 k_iconst_0 ?_
      have hres := Option.some.inj h
      subst hres
      exact hRet 46 _ _ _ hP hD hS dX3_nextStep_46
  unfold m_X3_nextStep at h
  refine lv_aload_n hx hb dX3_nextStep_0 rfl (lv_at hl 0 rfl) ?_
  refine va_get (D := G) (ci := 3) (v := .int (vY 0 11)) (C := RX3) (T := TX3) (N := 14) hx hb hts fi_X3_nextStep_X3 hown hEN.1 hP 0 rfl rfl 11 (by decide) (hts (.fieldLink RX3 93 "HourWell$Ways" "place" "I") (List.mem_of_getElem? (i := 1) rfl)) (fun _ h9 => h9) rfl dX3_nextStep_1 ?_
  refine lv_if_ne (tgt := 24) hx hb dX3_nextStep_4 (by decide) (fun c4 => ?_) (fun c4 => ?_)
  · have h := (if_neg c4).symm.trans h
    exact j24  h _ _ _ hP hD hS (lv_sub hl [0] rfl)
  · have h := (if_pos c4).symm.trans h
    refine lv_aload_n hx hb dX3_nextStep_7 rfl (lv_at hl 0 rfl) ?_
    refine va_get (D := G) (ci := 3) (v := .int (vY 0 13)) (C := RX3) (T := TX3) (N := 14) hx hb hts fi_X3_nextStep_X3 hown hEN.1 hP 0 rfl rfl 13 (by decide) (hts (.fieldLink RX3 85 "HourWell$Ways" "things" "I") (List.mem_of_getElem? (i := 2) rfl)) (fun _ h9 => h9) rfl dX3_nextStep_8 ?_
    refine lv_aload_n hx hb dX3_nextStep_11 rfl (lv_at hl 0 rfl) ?_
    refine va_get (D := G) (ci := 3) (v := .int (vY 0 7)) (C := RX3) (T := TX3) (N := 14) hx hb hts fi_X3_nextStep_X3 hown hEN.1 hP 0 rfl rfl 7 (by decide) (hts (.fieldLink RX3 29 "HourWell$Ways" "wayThing" "I") (List.mem_of_getElem? (i := 3) rfl)) (fun _ h9 => h9) rfl dX3_nextStep_12 ?_
    obtain ⟨o15, ho15, h⟩ := bnd_some h
    refine call_SN0 (As := [.int (vY 0 13), .int (vY 0 7)]) (rest := []) ⟨hx, hb, hml, hown, hts⟩ (c_X5_hasThing l G cI cZ  (vY 0 13) (vY 0 7) o15 ho15) ⟨va_cnB 2 hts gX3_nextStep_X5_hasThing_n86 rfl rfl rfl (hEN.2.1 _ (List.mem_of_getElem? (i := 8) rfl)) (hts (.initialized RX5) (List.mem_of_getElem? (i := 9) rfl)) hdS_X5_hasThing ⟨Nat.le_of_ble_eq_true rfl, Nat.le_of_ble_eq_true rfl⟩, hts (.static yX5_hasThing) (List.mem_of_getElem? (i := 8) rfl), trivial⟩ hEN hA hP hD hS [] rfl (by decide) rfl hl.1 rfl (Nat.le_of_ble_eq_true rfl) dX3_nextStep_15 ⟨Nat.le_of_ble_eq_true rfl, Nat.le_of_ble_eq_true rfl⟩ (fun H locs hP hS => ?_)
    refine lv_if_eq (tgt := 24) hx hb dX3_nextStep_18 (by decide) (fun c18 => ?_) (fun c18 => ?_)
    · have h := (if_pos c18).symm.trans h
      exact j24  h _ _ _ hP hD hS (lv_sub hl [0] rfl)
    · have h := (if_neg c18).symm.trans h
      refine lv_bipush (v := (-9 : Int32)) hx hb dX3_nextStep_21 k_bipush_n9 ?_
      have hres := Option.some.inj h
      subst hres
      exact hRet 23 _ _ _ hP hD hS dX3_nextStep_23
abbrev rm_X3_isWalk : Room := { frames := 0, cells := 0, slots := 0, locals := 0 }
theorem hdS_X3_isWalk : yX3_isWalk.cls ≠ "java/lang/invoke/MethodHandle" ∧ yX3_isWalk.cls ≠ "java/lang/invoke/VarHandle" ∧ (parseMethodDescriptor yX3_isWalk.desc).map (fun d => d.parameters.length) = some 1 := by decide +kernel
set_option maxRecDepth 100000 in
set_option maxHeartbeats 4000000 in
theorem c_X3_isWalk (l : Launch) (G : va_G) (cI cZ : ClassId)   (x0 : Int32) (res : Int32) (h : m_X3_isWalk  x0 = some res) : Ct l yX3_isWalk wsX3_isWalk rm_X3_isWalk G cI cZ [.int x0] [] (some (.int res)) [] := by
  refine Ct.of_z (maxL := 1) (by decide) rfl (Nat.le_of_ble_eq_true rfl) ?_
  intro p e s m below meth c args hx hb hml hown hts A hA hEN hP hD hS Q hRet ls hl
  have hown : s.vm.findClass RX3 = some m.cls := hown
  have hl : lv_has ls 1 [(0, .int x0)] := hl
  unfold m_X3_isWalk at h
  refine lv_iload_n hx hb dX3_isWalk_0 rfl (lv_at hl 0 rfl) ?_
  refine lv_iconst (v := (1 : Int32)) hx hb dX3_isWalk_1 k_iconst_1 ?_
  refine lv_icmp_lt (tgt := 15) hx hb dX3_isWalk_2 (by decide) (fun c2 => ?_) (fun c2 => ?_)
  · have h := (if_pos c2).symm.trans h
    refine lv_iconst (v := (0 : Int32)) hx hb dX3_isWalk_15 k_iconst_0 ?_
    have hres := Option.some.inj h
    subst hres
    exact hRet 16 nz0 _ _ _ hP hD hS dX3_isWalk_16
  · have h := (if_neg c2).symm.trans h
    refine lv_iload_n hx hb dX3_isWalk_5 rfl (lv_at hl 0 rfl) ?_
    refine lv_bipush (v := (11 : Int32)) hx hb dX3_isWalk_6 k_bipush_11 ?_
    refine lv_icmp_ge (tgt := 15) hx hb dX3_isWalk_8 (by decide) (fun c8 => ?_) (fun c8 => ?_)
    · have h := (if_pos c8).symm.trans h
      refine lv_iconst (v := (0 : Int32)) hx hb dX3_isWalk_15 k_iconst_0 ?_
      have hres := Option.some.inj h
      subst hres
      exact hRet 16 nz0 _ _ _ hP hD hS dX3_isWalk_16
    · have h := (if_neg c8).symm.trans h
      refine lv_iconst (v := (1 : Int32)) hx hb dX3_isWalk_11 k_iconst_1 ?_
      refine lv_goto (tgt := 16) hx hb dX3_isWalk_12 (by decide) ?_
      have hres := Option.some.inj h
      subst hres
      exact hRet 16 nz1 _ _ _ hP hD hS dX3_isWalk_16
abbrev rm_X3_takeStep : Room := { frames := 3, cells := 0, slots := 0, locals := 65 }
theorem fi_X3_takeStep_X3 : ∀ w ∈ wsX30, w ∈ wsX3_takeStep := fun _ h => List.mem_cons_of_mem _ (List.mem_append_left _ (List.mem_append_right _ h))
theorem fi_X3_takeStep_X4 : ∀ w ∈ wsX40, w ∈ wsX3_takeStep := fun _ h => List.mem_cons_of_mem _ (List.mem_append_right _ h)
theorem hdV_X3_takeStep : yX3_takeStep.cls = RX3 ∧ yX3_takeStep.cls ≠ "java/lang/invoke/MethodHandle" ∧ yX3_takeStep.cls ≠ "java/lang/invoke/VarHandle" ∧ (parseMethodDescriptor yX3_takeStep.desc).map (fun d => d.parameters.length) = some 1 := by decide +kernel
set_option maxRecDepth 100000 in
set_option maxHeartbeats 4000000 in
theorem c_X3_takeStep (l : Launch) (G : va_G) (cI cZ : ClassId) (aY : Nat → Nat) (aW : Nat → Nat) (aS : Nat → Nat) (vY : Ob) (vW : Ob) (x1 : Int32) (res : Ob) (h : m_X3_takeStep vY vW x1 = some res) : Ct l yX3_takeStep wsX3_takeStep rm_X3_takeStep G cI cZ [.ref (aY 0), .int x1] [oX3 aY aW aS vY, ai cI (aY 3) 427 (vY 3), ai cI (aY 4) 7 (vY 4), ai cI (aY 5) 125 (vY 5), oX4 aW vW, ai cI (aW 5) 7 (vW 5), ai cI (aW 8) 9 (vW 8), ai cI (aW 9) 9 (vW 9), ai cI (aW 10) 9 (vW 10), ai cI (aW 12) 6 (vW 12)] none [oX3 aY aW aS res, ai cI (aY 3) 427 (res 3), ai cI (aY 4) 7 (res 4), ai cI (aY 5) 125 (res 5), oX4 aW vW, ai cI (aW 5) 7 (vW 5), ai cI (aW 8) 9 (vW 8), ai cI (aW 9) 9 (vW 9), ai cI (aW 10) 9 (vW 10), ai cI (aW 12) 6 (vW 12)] := by
  refine Ct.of_v (maxL := 3) (by decide) rfl (Nat.le_of_ble_eq_true rfl) ?_
  intro p e s m below meth c args hx hb hml hown hts A hA hEN hP hD hS Q hRet ls hl
  have hown : s.vm.findClass RX3 = some m.cls := hown
  have hl : lv_has ls 3 [(0, .ref (aY 0)), (1, .int x1)] := hl
  unfold m_X3_takeStep at h
  refine lv_iload_n hx hb dX3_takeStep_0 rfl (lv_at hl 1 rfl) ?_
  refine lv_if_ne (tgt := 17) hx hb dX3_takeStep_1 (by decide) (fun c1 => ?_) (fun c1 => ?_)
  · have h := (if_neg c1).symm.trans h
    refine lv_iload_n hx hb dX3_takeStep_17 rfl (lv_at hl 1 rfl) ?_
    obtain ⟨o18, ho18, h⟩ := bnd_some h
    refine call_S0 (As := [.int x1]) (rest := []) ⟨hx, hb, hml, hown, hts⟩ (c_X3_isWalk l G cI cZ  x1 o18 ho18) (va_cwS 1 hts gX3_takeStep_X3_isWalk rfl rfl rfl hdS_X3_isWalk ⟨Nat.le_of_ble_eq_true rfl, Nat.le_of_ble_eq_true rfl⟩) hEN hA hP hD hS [] rfl (by decide) rfl hl.1 rfl (Nat.le_of_ble_eq_true rfl) dX3_takeStep_18 ⟨Nat.le_of_ble_eq_true rfl, Nat.le_of_ble_eq_true rfl⟩ (fun H locs hP hS => ?_)
    refine lv_if_eq (tgt := 83) hx hb dX3_takeStep_21 (by decide) (fun c21 => ?_) (fun c21 => ?_)
    · have h := (if_pos c21).symm.trans h
      refine lv_aload_n hx hb dX3_takeStep_83 rfl (lv_at hl 0 rfl) ?_
      refine lv_dup hx hb dX3_takeStep_84 rfl ?_
      refine va_get (D := G) (ci := 3) (v := .int (vY 0 13)) (C := RX3) (T := TX3) (N := 14) hx hb hts fi_X3_takeStep_X3 hown hEN.1 hP 0 rfl rfl 13 (by decide) (hts (.fieldLink RX3 85 "HourWell$Ways" "things" "I") (List.mem_of_getElem? (i := 4) rfl)) (fun _ h9 => h9) rfl dX3_takeStep_85 ?_
      refine lv_iconst (v := (1 : Int32)) hx hb dX3_takeStep_88 k_iconst_1 ?_
      refine lv_aload_n hx hb dX3_takeStep_89 rfl (lv_at hl 0 rfl) ?_
      refine va_get (D := G) (ci := 3) (v := .ref (aW 0)) (C := RX3) (T := TX3) (N := 14) hx hb hts fi_X3_takeStep_X3 hown hEN.1 hP 0 rfl rfl 0 (by decide) (hts (.fieldLink RX3 21 "HourWell$Ways" "world" "LHourWell$World;") (List.mem_of_getElem? (i := 2) rfl)) (fun _ h9 => h9) rfl dX3_takeStep_90 ?_
      refine lv_iload_n hx hb dX3_takeStep_93 rfl (lv_at hl 1 rfl) ?_
      refine lv_bipush (v := (11 : Int32)) hx hb dX3_takeStep_94 k_bipush_11 ?_
      refine lv_isub hx hb dX3_takeStep_96 ?_
      obtain ⟨o97, ho97, h⟩ := bnd_some h
      refine call_V0 (As := [.int (x1 - (11 : Int32))]) (rest := [.int (1 : Int32), .int (vY 0 13), .ref (aY 0)]) ⟨hx, hb, hml, hown, hts⟩ (c_X4_hostGives l G cI cZ aW vW (x1 - (11 : Int32)) o97 ho97) (cwV 1 hts gX3_takeStep_X4_hostGives rfl rfl rfl hdV_X4_hostGives ⟨Nat.le_of_ble_eq_true rfl, Nat.le_of_ble_eq_true rfl⟩) hEN hA hP hD hS [4, 9] rfl (by decide) 4 rfl rfl rfl hl.1 rfl (Nat.le_of_ble_eq_true rfl) dX3_takeStep_97 ⟨Nat.le_of_ble_eq_true rfl, Nat.le_of_ble_eq_true rfl⟩ (fun H locs hP hS => ?_)
      refine lv_ishl hx hb dX3_takeStep_100 ?_
      refine lv_ior hx hb dX3_takeStep_101 ?_
      refine va_put (D := G) (ci := 3) (v := .int ((vY 0 13) ||| ((1 : Int32) <<< (o97 &&& 31)))) (ty := .int) (C := RX3) (T := TX3) (N := 14) hx hb hts fi_X3_takeStep_X3 tyX3 tyX3_ok nmX3 hown hEN.1 hP hD hS 0 rfl rfl 13 (by decide) (hts (.fieldLink RX3 85 "HourWell$Ways" "things" "I") (List.mem_of_getElem? (i := 4) rfl)) (fun _ h9 => h9) rfl (by decide +kernel) rfl rfl (Nat.le_of_ble_eq_true rfl) dX3_takeStep_102 (fun H locs hP hD hS => ?_)
      have hP : va_P G vwCl [oX3 aY aW aS (st vY 0 13 ((vY 0 13) ||| ((1 : Int32) <<< (o97 &&& 31)))), ai cI (aY 3) 427 (vY 3), ai cI (aY 4) 7 (vY 4), ai cI (aY 5) 125 (vY 5), oX4 aW vW, ai cI (aW 5) 7 (vW 5), ai cI (aW 8) 9 (vW 8), ai cI (aW 9) 9 (vW 9), ai cI (aW 10) 9 (vW 10), ai cI (aW 12) 6 (vW 12)] H := hP
      have hD : va_D A [oX3 aY aW aS (st vY 0 13 ((vY 0 13) ||| ((1 : Int32) <<< (o97 &&& 31)))), ai cI (aY 3) 427 (vY 3), ai cI (aY 4) 7 (vY 4), ai cI (aY 5) 125 (vY 5), oX4 aW vW, ai cI (aW 5) 7 (vW 5), ai cI (aW 8) 9 (vW 8), ai cI (aW 9) 9 (vW 9), ai cI (aW 10) 9 (vW 10), ai cI (aW 12) 6 (vW 12)] := hD
      have hres := Option.some.inj h
      subst hres
      exact hRet 105 _ _ _ hP hD hS dX3_takeStep_105
    · have h := (if_neg c21).symm.trans h
      refine lv_iload_n hx hb dX3_takeStep_24 rfl (lv_at hl 1 rfl) ?_
      refine lv_iconst (v := (1 : Int32)) hx hb dX3_takeStep_25 k_iconst_1 ?_
      refine lv_isub hx hb dX3_takeStep_26 ?_
      refine lv_istore_n (lv' := [(2, .int (x1 - (1 : Int32))), (0, .ref (aY 0)), (1, .int x1)]) hx hb dX3_takeStep_27 rfl hl (by decide) rfl (fun ls hl => ?_)
      refine lv_aload_n hx hb dX3_takeStep_28 rfl (lv_at hl 1 rfl) ?_
      refine lv_aload_n hx hb dX3_takeStep_29 rfl (lv_at hl 1 rfl) ?_
      refine va_get (D := G) (ci := 3) (v := .ref (aW 0)) (C := RX3) (T := TX3) (N := 14) hx hb hts fi_X3_takeStep_X3 hown hEN.1 hP 0 rfl rfl 0 (by decide) (hts (.fieldLink RX3 21 "HourWell$Ways" "world" "LHourWell$World;") (List.mem_of_getElem? (i := 2) rfl)) (fun _ h9 => h9) rfl dX3_takeStep_30 ?_
      refine lv_iload_n hx hb dX3_takeStep_33 rfl (lv_at hl 0 rfl) ?_
      refine lv_aload_n hx hb dX3_takeStep_34 rfl (lv_at hl 1 rfl) ?_
      refine va_get (D := G) (ci := 3) (v := .int (vY 0 11)) (C := RX3) (T := TX3) (N := 14) hx hb hts fi_X3_takeStep_X3 hown hEN.1 hP 0 rfl rfl 11 (by decide) (hts (.fieldLink RX3 93 "HourWell$Ways" "place" "I") (List.mem_of_getElem? (i := 3) rfl)) (fun _ h9 => h9) rfl dX3_takeStep_35 ?_
      obtain ⟨o38, ho38, h⟩ := bnd_some h
      refine call_V0 (As := [.int (x1 - (1 : Int32)), .int (vY 0 11)]) (rest := [.ref (aY 0)]) ⟨hx, hb, hml, hown, hts⟩ (c_X4_farEnd l G cI cZ aW vW (x1 - (1 : Int32)) (vY 0 11) o38 ho38) (cwV 2 hts gX3_takeStep_X4_farEnd rfl rfl rfl hdV_X4_farEnd ⟨Nat.le_of_ble_eq_true rfl, Nat.le_of_ble_eq_true rfl⟩) hEN hA hP hD hS [4, 6, 7] rfl (by decide) 4 rfl rfl rfl hl.1 rfl (Nat.le_of_ble_eq_true rfl) dX3_takeStep_38 ⟨Nat.le_of_ble_eq_true rfl, Nat.le_of_ble_eq_true rfl⟩ (fun H locs hP hS => ?_)
      refine va_put (D := G) (ci := 3) (v := .int o38) (ty := .int) (C := RX3) (T := TX3) (N := 14) hx hb hts fi_X3_takeStep_X3 tyX3 tyX3_ok nmX3 hown hEN.1 hP hD hS 0 rfl rfl 11 (by decide) (hts (.fieldLink RX3 93 "HourWell$Ways" "place" "I") (List.mem_of_getElem? (i := 3) rfl)) (fun _ h9 => h9) rfl (by decide +kernel) rfl rfl (Nat.le_of_ble_eq_true rfl) dX3_takeStep_41 (fun H locs hP hD hS => ?_)
      have hP : va_P G vwCl [oX3 aY aW aS (st vY 0 11 o38), ai cI (aY 3) 427 (vY 3), ai cI (aY 4) 7 (vY 4), ai cI (aY 5) 125 (vY 5), oX4 aW vW, ai cI (aW 5) 7 (vW 5), ai cI (aW 8) 9 (vW 8), ai cI (aW 9) 9 (vW 9), ai cI (aW 10) 9 (vW 10), ai cI (aW 12) 6 (vW 12)] H := hP
      have hD : va_D A [oX3 aY aW aS (st vY 0 11 o38), ai cI (aY 3) 427 (vY 3), ai cI (aY 4) 7 (vY 4), ai cI (aY 5) 125 (vY 5), oX4 aW vW, ai cI (aW 5) 7 (vW 5), ai cI (aW 8) 9 (vW 8), ai cI (aW 9) 9 (vW 9), ai cI (aW 10) 9 (vW 10), ai cI (aW 12) 6 (vW 12)] := hD
      refine lv_aload_n hx hb dX3_takeStep_44 rfl (lv_at hl 1 rfl) ?_
      refine lv_dup hx hb dX3_takeStep_45 rfl ?_
      refine va_get (D := G) (ci := 3) (v := .int (vY 0 12)) (C := RX3) (T := TX3) (N := 14) hx hb hts fi_X3_takeStep_X3 hown hEN.1 hP 0 rfl rfl 12 (by decide) (hts (.fieldLink RX3 98 "HourWell$Ways" "gone" "I") (List.mem_of_getElem? (i := 1) rfl)) (fun _ h9 => h9) rfl dX3_takeStep_46 ?_
      refine lv_aload_n hx hb dX3_takeStep_49 rfl (lv_at hl 1 rfl) ?_
      refine va_get (D := G) (ci := 3) (v := .ref (aW 0)) (C := RX3) (T := TX3) (N := 14) hx hb hts fi_X3_takeStep_X3 hown hEN.1 hP 0 rfl rfl 0 (by decide) (hts (.fieldLink RX3 21 "HourWell$Ways" "world" "LHourWell$World;") (List.mem_of_getElem? (i := 2) rfl)) (fun _ h9 => h9) rfl dX3_takeStep_50 ?_
      refine lv_iload_n hx hb dX3_takeStep_53 rfl (lv_at hl 0 rfl) ?_
      obtain ⟨o54, ho54, h⟩ := bnd_some h
      refine call_V0 (As := [.int (x1 - (1 : Int32))]) (rest := [.int (vY 0 12), .ref (aY 0)]) ⟨hx, hb, hml, hown, hts⟩ (c_X4_roadHours l G cI cZ aW vW (x1 - (1 : Int32)) o54 ho54) (cwV 1 hts gX3_takeStep_X4_roadHours rfl rfl rfl hdV_X4_roadHours ⟨Nat.le_of_ble_eq_true rfl, Nat.le_of_ble_eq_true rfl⟩) hEN hA hP hD hS [4, 8] rfl (by decide) 4 rfl rfl rfl hl.1 rfl (Nat.le_of_ble_eq_true rfl) dX3_takeStep_54 ⟨Nat.le_of_ble_eq_true rfl, Nat.le_of_ble_eq_true rfl⟩ (fun H locs hP hS => ?_)
      refine lv_iadd hx hb dX3_takeStep_57 ?_
      refine va_put (D := G) (ci := 3) (v := .int ((vY 0 12) + o54)) (ty := .int) (C := RX3) (T := TX3) (N := 14) hx hb hts fi_X3_takeStep_X3 tyX3 tyX3_ok nmX3 hown hEN.1 hP hD hS 0 rfl rfl 12 (by decide) (hts (.fieldLink RX3 98 "HourWell$Ways" "gone" "I") (List.mem_of_getElem? (i := 1) rfl)) (fun _ h9 => h9) rfl (by decide +kernel) rfl rfl (Nat.le_of_ble_eq_true rfl) dX3_takeStep_58 (fun H locs hP hD hS => ?_)
      have hP : va_P G vwCl [oX3 aY aW aS (st (st vY 0 11 o38) 0 12 ((vY 0 12) + o54)), ai cI (aY 3) 427 (vY 3), ai cI (aY 4) 7 (vY 4), ai cI (aY 5) 125 (vY 5), oX4 aW vW, ai cI (aW 5) 7 (vW 5), ai cI (aW 8) 9 (vW 8), ai cI (aW 9) 9 (vW 9), ai cI (aW 10) 9 (vW 10), ai cI (aW 12) 6 (vW 12)] H := hP
      have hD : va_D A [oX3 aY aW aS (st (st vY 0 11 o38) 0 12 ((vY 0 12) + o54)), ai cI (aY 3) 427 (vY 3), ai cI (aY 4) 7 (vY 4), ai cI (aY 5) 125 (vY 5), oX4 aW vW, ai cI (aW 5) 7 (vW 5), ai cI (aW 8) 9 (vW 8), ai cI (aW 9) 9 (vW 9), ai cI (aW 10) 9 (vW 10), ai cI (aW 12) 6 (vW 12)] := hD
      refine lv_aload_n hx hb dX3_takeStep_61 rfl (lv_at hl 1 rfl) ?_
      refine lv_aload_n hx hb dX3_takeStep_62 rfl (lv_at hl 1 rfl) ?_
      refine va_get (D := G) (ci := 3) (v := .ref (aW 0)) (C := RX3) (T := TX3) (N := 14) hx hb hts fi_X3_takeStep_X3 hown hEN.1 hP 0 rfl rfl 0 (by decide) (hts (.fieldLink RX3 21 "HourWell$Ways" "world" "LHourWell$World;") (List.mem_of_getElem? (i := 2) rfl)) (fun _ h9 => h9) rfl dX3_takeStep_63 ?_
      refine lv_aload_n hx hb dX3_takeStep_66 rfl (lv_at hl 1 rfl) ?_
      refine va_get (D := G) (ci := 3) (v := .int o38) (C := RX3) (T := TX3) (N := 14) hx hb hts fi_X3_takeStep_X3 hown hEN.1 hP 0 rfl rfl 11 (by decide) (hts (.fieldLink RX3 93 "HourWell$Ways" "place" "I") (List.mem_of_getElem? (i := 3) rfl)) (fun _ h9 => h9) rfl dX3_takeStep_67 ?_
      refine lv_aload_n hx hb dX3_takeStep_70 rfl (lv_at hl 1 rfl) ?_
      refine va_get (D := G) (ci := 3) (v := .int (vY 0 13)) (C := RX3) (T := TX3) (N := 14) hx hb hts fi_X3_takeStep_X3 hown hEN.1 hP 0 rfl rfl 13 (by decide) (hts (.fieldLink RX3 85 "HourWell$Ways" "things" "I") (List.mem_of_getElem? (i := 4) rfl)) (fun _ h9 => h9) rfl dX3_takeStep_71 ?_
      obtain ⟨o74, ho74, h⟩ := bnd_some h
      refine call_V0 (As := [.int o38, .int (vY 0 13)]) (rest := [.ref (aY 0)]) ⟨hx, hb, hml, hown, hts⟩ (c_X4_thingsInside l G cI cZ aW vW o38 (vY 0 13) o74 ho74) (cwV 2 hts gX3_takeStep_X4_thingsInside rfl rfl rfl hdV_X4_thingsInside ⟨Nat.le_of_ble_eq_true rfl, Nat.le_of_ble_eq_true rfl⟩) hEN hA hP hD hS [4, 5] rfl (by decide) 4 rfl rfl rfl hl.1 rfl (Nat.le_of_ble_eq_true rfl) dX3_takeStep_74 ⟨Nat.le_of_ble_eq_true rfl, Nat.le_of_ble_eq_true rfl⟩ (fun H locs hP hS => ?_)
      refine va_put (D := G) (ci := 3) (v := .int o74) (ty := .int) (C := RX3) (T := TX3) (N := 14) hx hb hts fi_X3_takeStep_X3 tyX3 tyX3_ok nmX3 hown hEN.1 hP hD hS 0 rfl rfl 13 (by decide) (hts (.fieldLink RX3 85 "HourWell$Ways" "things" "I") (List.mem_of_getElem? (i := 4) rfl)) (fun _ h9 => h9) rfl (by decide +kernel) rfl rfl (Nat.le_of_ble_eq_true rfl) dX3_takeStep_77 (fun H locs hP hD hS => ?_)
      have hP : va_P G vwCl [oX3 aY aW aS (st (st (st vY 0 11 o38) 0 12 ((vY 0 12) + o54)) 0 13 o74), ai cI (aY 3) 427 (vY 3), ai cI (aY 4) 7 (vY 4), ai cI (aY 5) 125 (vY 5), oX4 aW vW, ai cI (aW 5) 7 (vW 5), ai cI (aW 8) 9 (vW 8), ai cI (aW 9) 9 (vW 9), ai cI (aW 10) 9 (vW 10), ai cI (aW 12) 6 (vW 12)] H := hP
      have hD : va_D A [oX3 aY aW aS (st (st (st vY 0 11 o38) 0 12 ((vY 0 12) + o54)) 0 13 o74), ai cI (aY 3) 427 (vY 3), ai cI (aY 4) 7 (vY 4), ai cI (aY 5) 125 (vY 5), oX4 aW vW, ai cI (aW 5) 7 (vW 5), ai cI (aW 8) 9 (vW 8), ai cI (aW 9) 9 (vW 9), ai cI (aW 10) 9 (vW 10), ai cI (aW 12) 6 (vW 12)] := hD
      refine lv_goto (tgt := 105) hx hb dX3_takeStep_80 (by decide) ?_
      have hres := Option.some.inj h
      subst hres
      exact hRet 105 _ _ _ hP hD hS dX3_takeStep_105
  · have h := (if_pos c1).symm.trans h
    refine lv_aload_n hx hb dX3_takeStep_4 rfl (lv_at hl 0 rfl) ?_
    refine lv_dup hx hb dX3_takeStep_5 rfl ?_
    refine va_get (D := G) (ci := 3) (v := .int (vY 0 12)) (C := RX3) (T := TX3) (N := 14) hx hb hts fi_X3_takeStep_X3 hown hEN.1 hP 0 rfl rfl 12 (by decide) (hts (.fieldLink RX3 98 "HourWell$Ways" "gone" "I") (List.mem_of_getElem? (i := 1) rfl)) (fun _ h9 => h9) rfl dX3_takeStep_6 ?_
    refine lv_iconst (v := (1 : Int32)) hx hb dX3_takeStep_9 k_iconst_1 ?_
    refine lv_iadd hx hb dX3_takeStep_10 ?_
    refine va_put (D := G) (ci := 3) (v := .int ((vY 0 12) + (1 : Int32))) (ty := .int) (C := RX3) (T := TX3) (N := 14) hx hb hts fi_X3_takeStep_X3 tyX3 tyX3_ok nmX3 hown hEN.1 hP hD hS 0 rfl rfl 12 (by decide) (hts (.fieldLink RX3 98 "HourWell$Ways" "gone" "I") (List.mem_of_getElem? (i := 1) rfl)) (fun _ h9 => h9) rfl (by decide +kernel) rfl rfl (Nat.le_of_ble_eq_true rfl) dX3_takeStep_11 (fun H locs hP hD hS => ?_)
    have hP : va_P G vwCl [oX3 aY aW aS (st vY 0 12 ((vY 0 12) + (1 : Int32))), ai cI (aY 3) 427 (vY 3), ai cI (aY 4) 7 (vY 4), ai cI (aY 5) 125 (vY 5), oX4 aW vW, ai cI (aW 5) 7 (vW 5), ai cI (aW 8) 9 (vW 8), ai cI (aW 9) 9 (vW 9), ai cI (aW 10) 9 (vW 10), ai cI (aW 12) 6 (vW 12)] H := hP
    have hD : va_D A [oX3 aY aW aS (st vY 0 12 ((vY 0 12) + (1 : Int32))), ai cI (aY 3) 427 (vY 3), ai cI (aY 4) 7 (vY 4), ai cI (aY 5) 125 (vY 5), oX4 aW vW, ai cI (aW 5) 7 (vW 5), ai cI (aW 8) 9 (vW 8), ai cI (aW 9) 9 (vW 9), ai cI (aW 10) 9 (vW 10), ai cI (aW 12) 6 (vW 12)] := hD
    refine lv_goto (tgt := 105) hx hb dX3_takeStep_14 (by decide) ?_
    have hres := Option.some.inj h
    subst hres
    exact hRet 105 _ _ _ hP hD hS dX3_takeStep_105
abbrev rm_X3_findWay : Room := { frames := 5, cells := 0, slots := 0, locals := 122 }
theorem fi_X3_findWay_X3 : ∀ w ∈ wsX30, w ∈ wsX3_findWay := fun _ h => List.mem_cons_of_mem _ (List.mem_append_left _ (List.mem_append_left _ (List.mem_append_right _ h)))
theorem fi_X3_findWay_X2 : ∀ w ∈ wsX20, w ∈ wsX3_findWay := fun _ h => List.mem_cons_of_mem _ (List.mem_append_left _ (List.mem_append_right _ h))
theorem fi_X3_findWay_X4 : ∀ w ∈ wsX40, w ∈ wsX3_findWay := fun _ h => List.mem_cons_of_mem _ (List.mem_append_right _ h)
theorem hdV_X3_findWay : yX3_findWay.cls = RX3 ∧ yX3_findWay.cls ≠ "java/lang/invoke/MethodHandle" ∧ yX3_findWay.cls ≠ "java/lang/invoke/VarHandle" ∧ (parseMethodDescriptor yX3_findWay.desc).map (fun d => d.parameters.length) = some 1 := by decide +kernel
set_option maxRecDepth 100000 in
set_option maxHeartbeats 4000000 in
theorem c_X3_findWay (l : Launch) (G : va_G) (cI cZ : ClassId) (aY : Nat → Nat) (aW : Nat → Nat) (aS : Nat → Nat) (vY : Ob) (vW : Ob) (vS : Ob) (x1 : Int32) (res : Ob) (h : m_X3_findWay vY vW vS x1 = some res) : Ct l yX3_findWay wsX3_findWay rm_X3_findWay G cI cZ [.ref (aY 0), .int x1] [oX3 aY aW aS vY, ai cI (aY 3) 427 (vY 3), ai cI (aY 4) 7 (vY 4), ai cI (aY 5) 125 (vY 5), oX4 aW vW, ai cI (aW 5) 7 (vW 5), ai cI (aW 6) 7 (vW 6), ai cI (aW 7) 7 (vW 7), ai cI (aW 8) 9 (vW 8), ai cI (aW 9) 9 (vW 9), ai cI (aW 10) 9 (vW 10), ai cI (aW 11) 6 (vW 11), ai cI (aW 12) 6 (vW 12), ai cI (aW 13) 6 (vW 13), oX2 aS vS] none [oX3 aY aW aS res, ai cI (aY 3) 427 (res 3), ai cI (aY 4) 7 (res 4), ai cI (aY 5) 125 (res 5), oX4 aW vW, ai cI (aW 5) 7 (vW 5), ai cI (aW 6) 7 (vW 6), ai cI (aW 7) 7 (vW 7), ai cI (aW 8) 9 (vW 8), ai cI (aW 9) 9 (vW 9), ai cI (aW 10) 9 (vW 10), ai cI (aW 11) 6 (vW 11), ai cI (aW 12) 6 (vW 12), ai cI (aW 13) 6 (vW 13), oX2 aS vS] := by
  refine Ct.of_v (maxL := 4) (by decide) rfl (Nat.le_of_ble_eq_true rfl) ?_
  intro p e s m below meth c args hx hb hml hown hts A hA hEN hP hD hS Q hRet ls hl
  have hown : s.vm.findClass RX3 = some m.cls := hown
  have hl : lv_has ls 4 [(0, .ref (aY 0)), (1, .int x1)] := hl
  have L88 : ∀ (out : (Ob) ⊕ (Ob)), (∀ r : Ob, out = Sum.inl r → r = res) → (∀ ex : Ob, out = Sum.inr ex → ∀ (H : Heap) (locs : List Loc) (ls : Array Slot), va_P G vwCl [oX3 aY aW aS ex, ai cI (aY 3) 427 (ex 3), ai cI (aY 4) 7 (ex 4), ai cI (aY 5) 125 (ex 5), oX4 aW vW, ai cI (aW 5) 7 (vW 5), ai cI (aW 6) 7 (vW 6), ai cI (aW 7) 7 (vW 7), ai cI (aW 8) 9 (vW 8), ai cI (aW 9) 9 (vW 9), ai cI (aW 10) 9 (vW 10), ai cI (aW 11) 6 (vW 11), ai cI (aW 12) 6 (vW 12), ai cI (aW 13) 6 (vW 13), oX2 aS vS] H → va_D A [oX3 aY aW aS ex, ai cI (aY 3) 427 (ex 3), ai cI (aY 4) 7 (ex 4), ai cI (aY 5) 125 (ex 5), oX4 aW vW, ai cI (aW 5) 7 (vW 5), ai cI (aW 6) 7 (vW 6), ai cI (aW 7) 7 (vW 7), ai cI (aW 8) 9 (vW 8), ai cI (aW 9) 9 (vW 9), ai cI (aW 10) 9 (vW 10), ai cI (aW 11) 6 (vW 11), ai cI (aW 12) 6 (vW 12), ai cI (aW 13) 6 (vW 13), oX2 aS vS] → va_S A s.heap H locs → lv_has ls 4 [] → W p l e rm_X3_findWay s m args below meth c H locs 0 0 Q (F0 m 131 ls [])) → ∀ (n : Nat) (vY : Ob) (x2 : Int32), m_X3_findWay_L88 vW vS n vY x2 = some out → ∀ (H : Heap) (locs : List Loc) (ls : Array Slot), va_P G vwCl [oX3 aY aW aS vY, ai cI (aY 3) 427 (vY 3), ai cI (aY 4) 7 (vY 4), ai cI (aY 5) 125 (vY 5), oX4 aW vW, ai cI (aW 5) 7 (vW 5), ai cI (aW 6) 7 (vW 6), ai cI (aW 7) 7 (vW 7), ai cI (aW 8) 9 (vW 8), ai cI (aW 9) 9 (vW 9), ai cI (aW 10) 9 (vW 10), ai cI (aW 11) 6 (vW 11), ai cI (aW 12) 6 (vW 12), ai cI (aW 13) 6 (vW 13), oX2 aS vS] H → va_D A [oX3 aY aW aS vY, ai cI (aY 3) 427 (vY 3), ai cI (aY 4) 7 (vY 4), ai cI (aY 5) 125 (vY 5), oX4 aW vW, ai cI (aW 5) 7 (vW 5), ai cI (aW 6) 7 (vW 6), ai cI (aW 7) 7 (vW 7), ai cI (aW 8) 9 (vW 8), ai cI (aW 9) 9 (vW 9), ai cI (aW 10) 9 (vW 10), ai cI (aW 11) 6 (vW 11), ai cI (aW 12) 6 (vW 12), ai cI (aW 13) 6 (vW 13), oX2 aS vS] → va_S A s.heap H locs → lv_has ls 4 [(0, .ref (aY 0)), (2, .int x2)] → W p l e rm_X3_findWay s m args below meth c H locs 0 0 Q (F0 m 88 ls []) := by
    intro out hKr hKx
    intro n
    induction n with
    | zero => intro vY x2 h; exact nomatch (show (none : Option ((Ob) ⊕ (Ob))) = some out from h)
    | succ n hrc =>
      intro vY x2 h H locs ls hP hD hS hl
      have h : m_X3_findWay_L88B vW vS (m_X3_findWay_L88 vW vS n) vY x2 = some out := h
      generalize m_X3_findWay_L88 vW vS n = rc at h hrc
      unfold m_X3_findWay_L88B at h
      refine lv_iload_n hx hb dX3_findWay_88 rfl (lv_at hl 1 rfl) ?_
      refine lv_bipush (v := (125 : Int32)) hx hb dX3_findWay_89 k_bipush_125 ?_
      refine lv_icmp_ge (tgt := 131) hx hb dX3_findWay_91 (by decide) (fun c91 => ?_) (fun c91 => ?_)
      · have h := (if_pos c91).symm.trans h
        exact hKx _ (Option.some.inj h).symm _ _ _ hP hD hS (lv_sub hl [] rfl)
      · have h := (if_neg c91).symm.trans h
        refine lv_aload_n hx hb dX3_findWay_94 rfl (lv_at hl 0 rfl) ?_
        obtain ⟨o95, ho95, h⟩ := bnd_some h
        refine call_V0 (As := []) (rest := []) ⟨hx, hb, hml, hown, hts⟩ (c_X3_nextStep l G cI cZ aY aW aS vY vW vS o95 ho95) (cwV 0 hts gX3_findWay_X3_nextStep rfl rfl rfl hdV_X3_nextStep ⟨Nat.le_of_ble_eq_true rfl, Nat.le_of_ble_eq_true rfl⟩) hEN hA hP hD hS [0, 1, 4, 5, 6, 7, 8, 9, 10, 11, 12, 13, 14] rfl (by decide) 0 rfl rfl rfl hl.1 rfl (Nat.le_of_ble_eq_true rfl) dX3_findWay_95 ⟨Nat.le_of_ble_eq_true rfl, Nat.le_of_ble_eq_true rfl⟩ (fun H locs hP hS => ?_)
        refine lv_istore_n (lv' := [(3, .int o95), (0, .ref (aY 0)), (2, .int x2)]) hx hb dX3_findWay_98 rfl hl (by decide) rfl (fun ls hl => ?_)
        refine lv_iload_n hx hb dX3_findWay_99 rfl (lv_at hl 0 rfl) ?_
        refine lv_bipush (v := (-9 : Int32)) hx hb dX3_findWay_100 k_bipush_n9 ?_
        refine lv_icmp_ne (tgt := 106) hx hb dX3_findWay_102 (by decide) (fun c102 => ?_) (fun c102 => ?_)
        · have h := (if_neg c102).symm.trans h
          refine lv_aload_n hx hb dX3_findWay_106 rfl (lv_at hl 1 rfl) ?_
          refine va_get (D := G) (ci := 3) (v := .ref (aY 5)) (C := RX3) (T := TX3) (N := 14) hx hb hts fi_X3_findWay_X3 hown hEN.1 hP 0 rfl rfl 4 (by decide) (hts (.fieldLink RX3 18 "HourWell$Ways" "steps" "[I") (List.mem_of_getElem? (i := 11) rfl)) (fun _ h9 => h9) rfl dX3_findWay_107 ?_
          refine lv_iload_n hx hb dX3_findWay_110 rfl (lv_at hl 2 rfl) ?_
          refine lv_iload_n hx hb dX3_findWay_111 rfl (lv_at hl 0 rfl) ?_
          obtain ⟨hg112, h⟩ := grd_some h
          refine va_iast (f := (vY 5)) hx hb hEN.1 hP hD hS 3 0 rfl rfl (inb_in hg112) dX3_findWay_112 (fun H locs hP hD hS => ?_)
          have hP : va_P G vwCl [oX3 aY aW aS vY, ai cI (aY 3) 427 (vY 3), ai cI (aY 4) 7 (vY 4), ai cI (aY 5) 125 (upd (vY 5) (Int32.toNatClampNeg x2) o95), oX4 aW vW, ai cI (aW 5) 7 (vW 5), ai cI (aW 6) 7 (vW 6), ai cI (aW 7) 7 (vW 7), ai cI (aW 8) 9 (vW 8), ai cI (aW 9) 9 (vW 9), ai cI (aW 10) 9 (vW 10), ai cI (aW 11) 6 (vW 11), ai cI (aW 12) 6 (vW 12), ai cI (aW 13) 6 (vW 13), oX2 aS vS] H := hP
          have hD : va_D A [oX3 aY aW aS vY, ai cI (aY 3) 427 (vY 3), ai cI (aY 4) 7 (vY 4), ai cI (aY 5) 125 (upd (vY 5) (Int32.toNatClampNeg x2) o95), oX4 aW vW, ai cI (aW 5) 7 (vW 5), ai cI (aW 6) 7 (vW 6), ai cI (aW 7) 7 (vW 7), ai cI (aW 8) 9 (vW 8), ai cI (aW 9) 9 (vW 9), ai cI (aW 10) 9 (vW 10), ai cI (aW 11) 6 (vW 11), ai cI (aW 12) 6 (vW 12), ai cI (aW 13) 6 (vW 13), oX2 aS vS] := hD
          refine lv_aload_n hx hb dX3_findWay_113 rfl (lv_at hl 1 rfl) ?_
          refine lv_iload_n hx hb dX3_findWay_114 rfl (lv_at hl 2 rfl) ?_
          refine lv_iconst (v := (1 : Int32)) hx hb dX3_findWay_115 k_iconst_1 ?_
          refine lv_iadd hx hb dX3_findWay_116 ?_
          refine va_put (D := G) (ci := 3) (v := .int (x2 + (1 : Int32))) (ty := .int) (C := RX3) (T := TX3) (N := 14) hx hb hts fi_X3_findWay_X3 tyX3 tyX3_ok nmX3 hown hEN.1 hP hD hS 0 rfl rfl 5 (by decide) (hts (.fieldLink RX3 57 "HourWell$Ways" "stepCount" "I") (List.mem_of_getElem? (i := 9) rfl)) (fun _ h9 => h9) rfl (by decide +kernel) rfl rfl (Nat.le_of_ble_eq_true rfl) dX3_findWay_117 (fun H locs hP hD hS => ?_)
          have hP : va_P G vwCl [oX3 aY aW aS (st vY 0 5 (x2 + (1 : Int32))), ai cI (aY 3) 427 (vY 3), ai cI (aY 4) 7 (vY 4), ai cI (aY 5) 125 (upd (vY 5) (Int32.toNatClampNeg x2) o95), oX4 aW vW, ai cI (aW 5) 7 (vW 5), ai cI (aW 6) 7 (vW 6), ai cI (aW 7) 7 (vW 7), ai cI (aW 8) 9 (vW 8), ai cI (aW 9) 9 (vW 9), ai cI (aW 10) 9 (vW 10), ai cI (aW 11) 6 (vW 11), ai cI (aW 12) 6 (vW 12), ai cI (aW 13) 6 (vW 13), oX2 aS vS] H := hP
          have hD : va_D A [oX3 aY aW aS (st vY 0 5 (x2 + (1 : Int32))), ai cI (aY 3) 427 (vY 3), ai cI (aY 4) 7 (vY 4), ai cI (aY 5) 125 (upd (vY 5) (Int32.toNatClampNeg x2) o95), oX4 aW vW, ai cI (aW 5) 7 (vW 5), ai cI (aW 6) 7 (vW 6), ai cI (aW 7) 7 (vW 7), ai cI (aW 8) 9 (vW 8), ai cI (aW 9) 9 (vW 9), ai cI (aW 10) 9 (vW 10), ai cI (aW 11) 6 (vW 11), ai cI (aW 12) 6 (vW 12), ai cI (aW 13) 6 (vW 13), oX2 aS vS] := hD
          refine lv_aload_n hx hb dX3_findWay_120 rfl (lv_at hl 1 rfl) ?_
          refine lv_iload_n hx hb dX3_findWay_121 rfl (lv_at hl 0 rfl) ?_
          obtain ⟨o122, ho122, h⟩ := bnd_some h
          refine call_VJ (wr := [ai cI (aW 6) 7 (vW 6), ai cI (aW 7) 7 (vW 7), ai cI (aW 11) 6 (vW 11), ai cI (aW 13) 6 (vW 13), oX2 aS vS]) (As := [.int o95]) (rest := []) ⟨hx, hb, hml, hown, hts⟩ (c_X3_takeStep l G cI cZ aY aW aS (st (st vY 5 (Int32.toNatClampNeg x2) o95) 0 5 (x2 + (1 : Int32))) vW o95 o122 ho122) (cwV 1 hts gX3_findWay_X3_takeStep rfl rfl rfl hdV_X3_takeStep ⟨Nat.le_of_ble_eq_true rfl, Nat.le_of_ble_eq_true rfl⟩) hEN hA hP hD hS [0, 1, 2, 3, 4, 5, 8, 9, 10, 12] [6, 7, 11, 13, 14] rfl (by decide) rfl (by decide) (by decide) 0 rfl rfl rfl hl.1 rfl (Nat.le_of_ble_eq_true rfl) dX3_findWay_122 ⟨Nat.le_of_ble_eq_true rfl, Nat.le_of_ble_eq_true rfl⟩ (fun H locs hP hD hS => ?_)
          have hP : va_P G vwCl [ai cI (aW 6) 7 (vW 6), ai cI (aW 7) 7 (vW 7), ai cI (aW 11) 6 (vW 11), ai cI (aW 13) 6 (vW 13), oX2 aS vS, oX3 aY aW aS o122, ai cI (aY 3) 427 (o122 3), ai cI (aY 4) 7 (o122 4), ai cI (aY 5) 125 (o122 5), oX4 aW vW, ai cI (aW 5) 7 (vW 5), ai cI (aW 8) 9 (vW 8), ai cI (aW 9) 9 (vW 9), ai cI (aW 10) 9 (vW 10), ai cI (aW 12) 6 (vW 12)] H := hP
          have hD : va_D A [ai cI (aW 6) 7 (vW 6), ai cI (aW 7) 7 (vW 7), ai cI (aW 11) 6 (vW 11), ai cI (aW 13) 6 (vW 13), oX2 aS vS, oX3 aY aW aS o122, ai cI (aY 3) 427 (o122 3), ai cI (aY 4) 7 (o122 4), ai cI (aY 5) 125 (o122 5), oX4 aW vW, ai cI (aW 5) 7 (vW 5), ai cI (aW 8) 9 (vW 8), ai cI (aW 9) 9 (vW 9), ai cI (aW 10) 9 (vW 10), ai cI (aW 12) 6 (vW 12)] := hD
          refine lv_iinc (v := (x2 + (1 : Int32))) (lv' := [(2, .int (x2 + (1 : Int32))), (3, .int o95), (0, .ref (aY 0))]) hx hb dX3_findWay_125 hl (k := 2) rfl (congrArg (fun z => x2 + z) k_iconst_1) (by decide) rfl (fun ls hl => ?_)
          refine lv_goto (tgt := 88) hx hb dX3_findWay_128 (by decide) ?_
          exact hrc o122 (x2 + (1 : Int32)) h _ _ _ (hP.sub [5, 6, 7, 8, 9, 10, 0, 1, 11, 12, 13, 2, 14, 3, 4] rfl) (hD.sub [5, 6, 7, 8, 9, 10, 0, 1, 11, 12, 13, 2, 14, 3, 4] (by decide) rfl) hS (lv_sub hl [2, 0] rfl)
        · have h := (if_pos c102).symm.trans h
          have hres := hKr _ (Option.some.inj h).symm
          subst hres
          exact hRet 105 _ _ _ hP hD hS dX3_findWay_105
  unfold m_X3_findWay at h
  refine lv_aload_n hx hb dX3_findWay_0 rfl (lv_at hl 0 rfl) ?_
  refine lv_iload_n hx hb dX3_findWay_1 rfl (lv_at hl 1 rfl) ?_
  obtain ⟨o2, ho2, h⟩ := bnd_some h
  refine call_V0 (As := [.int x1]) (rest := []) ⟨hx, hb, hml, hown, hts⟩ (c_X3_isWayKnown l G cI cZ aY aW aS vY vS x1 o2 ho2) (cwV 1 hts gX3_findWay_X3_isWayKnown rfl rfl rfl hdV_X3_isWayKnown ⟨Nat.le_of_ble_eq_true rfl, Nat.le_of_ble_eq_true rfl⟩) hEN hA hP hD hS [0, 14] rfl (by decide) 0 rfl rfl rfl hl.1 rfl (Nat.le_of_ble_eq_true rfl) dX3_findWay_2 ⟨Nat.le_of_ble_eq_true rfl, Nat.le_of_ble_eq_true rfl⟩ (fun H locs hP hS => ?_)
  refine lv_if_eq (tgt := 9) hx hb dX3_findWay_5 (by decide) (fun c5 => ?_) (fun c5 => ?_)
  · have h := (if_pos c5).symm.trans h
    refine lv_aload_n hx hb dX3_findWay_9 rfl (lv_at hl 0 rfl) ?_
    refine lv_iload_n hx hb dX3_findWay_10 rfl (lv_at hl 1 rfl) ?_
    refine va_put (D := G) (ci := 3) (v := .int x1) (ty := .int) (C := RX3) (T := TX3) (N := 14) hx hb hts fi_X3_findWay_X3 tyX3 tyX3_ok nmX3 hown hEN.1 hP hD hS 0 rfl rfl 7 (by decide) (hts (.fieldLink RX3 29 "HourWell$Ways" "wayThing" "I") (List.mem_of_getElem? (i := 1) rfl)) (fun _ h9 => h9) rfl (by decide +kernel) rfl rfl (Nat.le_of_ble_eq_true rfl) dX3_findWay_11 (fun H locs hP hD hS => ?_)
    have hP : va_P G vwCl [oX3 aY aW aS (st vY 0 7 x1), ai cI (aY 3) 427 (vY 3), ai cI (aY 4) 7 (vY 4), ai cI (aY 5) 125 (vY 5), oX4 aW vW, ai cI (aW 5) 7 (vW 5), ai cI (aW 6) 7 (vW 6), ai cI (aW 7) 7 (vW 7), ai cI (aW 8) 9 (vW 8), ai cI (aW 9) 9 (vW 9), ai cI (aW 10) 9 (vW 10), ai cI (aW 11) 6 (vW 11), ai cI (aW 12) 6 (vW 12), ai cI (aW 13) 6 (vW 13), oX2 aS vS] H := hP
    have hD : va_D A [oX3 aY aW aS (st vY 0 7 x1), ai cI (aY 3) 427 (vY 3), ai cI (aY 4) 7 (vY 4), ai cI (aY 5) 125 (vY 5), oX4 aW vW, ai cI (aW 5) 7 (vW 5), ai cI (aW 6) 7 (vW 6), ai cI (aW 7) 7 (vW 7), ai cI (aW 8) 9 (vW 8), ai cI (aW 9) 9 (vW 9), ai cI (aW 10) 9 (vW 10), ai cI (aW 11) 6 (vW 11), ai cI (aW 12) 6 (vW 12), ai cI (aW 13) 6 (vW 13), oX2 aS vS] := hD
    refine lv_aload_n hx hb dX3_findWay_14 rfl (lv_at hl 0 rfl) ?_
    refine lv_aload_n hx hb dX3_findWay_15 rfl (lv_at hl 0 rfl) ?_
    refine va_get (D := G) (ci := 3) (v := .ref (aS 0)) (C := RX3) (T := TX3) (N := 14) hx hb hts fi_X3_findWay_X3 hown hEN.1 hP 0 rfl rfl 1 (by decide) (hts (.fieldLink RX3 25 "HourWell$Ways" "son" "LHourWell$Son;") (List.mem_of_getElem? (i := 2) rfl)) (fun _ h9 => h9) rfl dX3_findWay_16 ?_
    refine va_get (D := G) (ci := 2) (v := .int (vS 0 0)) (C := RX2) (T := TX2) (N := 8) hx hb hts fi_X3_findWay_X2 hown hEN.1 hP 14 rfl rfl 0 (by decide) (hts (.fieldLink RX3 37 "HourWell$Son" "place" "I") (List.mem_of_getElem? (i := 3) rfl)) (fun _ h9 => h9) rfl dX3_findWay_19 ?_
    refine va_put (D := G) (ci := 3) (v := .int (vS 0 0)) (ty := .int) (C := RX3) (T := TX3) (N := 14) hx hb hts fi_X3_findWay_X3 tyX3 tyX3_ok nmX3 hown hEN.1 hP hD hS 0 rfl rfl 8 (by decide) (hts (.fieldLink RX3 42 "HourWell$Ways" "fromPlace" "I") (List.mem_of_getElem? (i := 4) rfl)) (fun _ h9 => h9) rfl (by decide +kernel) rfl rfl (Nat.le_of_ble_eq_true rfl) dX3_findWay_22 (fun H locs hP hD hS => ?_)
    have hP : va_P G vwCl [oX3 aY aW aS (st (st vY 0 7 x1) 0 8 (vS 0 0)), ai cI (aY 3) 427 (vY 3), ai cI (aY 4) 7 (vY 4), ai cI (aY 5) 125 (vY 5), oX4 aW vW, ai cI (aW 5) 7 (vW 5), ai cI (aW 6) 7 (vW 6), ai cI (aW 7) 7 (vW 7), ai cI (aW 8) 9 (vW 8), ai cI (aW 9) 9 (vW 9), ai cI (aW 10) 9 (vW 10), ai cI (aW 11) 6 (vW 11), ai cI (aW 12) 6 (vW 12), ai cI (aW 13) 6 (vW 13), oX2 aS vS] H := hP
    have hD : va_D A [oX3 aY aW aS (st (st vY 0 7 x1) 0 8 (vS 0 0)), ai cI (aY 3) 427 (vY 3), ai cI (aY 4) 7 (vY 4), ai cI (aY 5) 125 (vY 5), oX4 aW vW, ai cI (aW 5) 7 (vW 5), ai cI (aW 6) 7 (vW 6), ai cI (aW 7) 7 (vW 7), ai cI (aW 8) 9 (vW 8), ai cI (aW 9) 9 (vW 9), ai cI (aW 10) 9 (vW 10), ai cI (aW 11) 6 (vW 11), ai cI (aW 12) 6 (vW 12), ai cI (aW 13) 6 (vW 13), oX2 aS vS] := hD
    refine lv_aload_n hx hb dX3_findWay_25 rfl (lv_at hl 0 rfl) ?_
    refine lv_aload_n hx hb dX3_findWay_26 rfl (lv_at hl 0 rfl) ?_
    refine va_get (D := G) (ci := 3) (v := .ref (aS 0)) (C := RX3) (T := TX3) (N := 14) hx hb hts fi_X3_findWay_X3 hown hEN.1 hP 0 rfl rfl 1 (by decide) (hts (.fieldLink RX3 25 "HourWell$Ways" "son" "LHourWell$Son;") (List.mem_of_getElem? (i := 2) rfl)) (fun _ h9 => h9) rfl dX3_findWay_27 ?_
    refine va_get (D := G) (ci := 2) (v := .int (vS 0 1)) (C := RX2) (T := TX2) (N := 8) hx hb hts fi_X3_findWay_X2 hown hEN.1 hP 14 rfl rfl 1 (by decide) (hts (.fieldLink RX3 45 "HourWell$Son" "hour" "I") (List.mem_of_getElem? (i := 5) rfl)) (fun _ h9 => h9) rfl dX3_findWay_30 ?_
    refine va_put (D := G) (ci := 3) (v := .int (vS 0 1)) (ty := .int) (C := RX3) (T := TX3) (N := 14) hx hb hts fi_X3_findWay_X3 tyX3 tyX3_ok nmX3 hown hEN.1 hP hD hS 0 rfl rfl 9 (by decide) (hts (.fieldLink RX3 48 "HourWell$Ways" "fromHour" "I") (List.mem_of_getElem? (i := 6) rfl)) (fun _ h9 => h9) rfl (by decide +kernel) rfl rfl (Nat.le_of_ble_eq_true rfl) dX3_findWay_33 (fun H locs hP hD hS => ?_)
    have hP : va_P G vwCl [oX3 aY aW aS (st (st (st vY 0 7 x1) 0 8 (vS 0 0)) 0 9 (vS 0 1)), ai cI (aY 3) 427 (vY 3), ai cI (aY 4) 7 (vY 4), ai cI (aY 5) 125 (vY 5), oX4 aW vW, ai cI (aW 5) 7 (vW 5), ai cI (aW 6) 7 (vW 6), ai cI (aW 7) 7 (vW 7), ai cI (aW 8) 9 (vW 8), ai cI (aW 9) 9 (vW 9), ai cI (aW 10) 9 (vW 10), ai cI (aW 11) 6 (vW 11), ai cI (aW 12) 6 (vW 12), ai cI (aW 13) 6 (vW 13), oX2 aS vS] H := hP
    have hD : va_D A [oX3 aY aW aS (st (st (st vY 0 7 x1) 0 8 (vS 0 0)) 0 9 (vS 0 1)), ai cI (aY 3) 427 (vY 3), ai cI (aY 4) 7 (vY 4), ai cI (aY 5) 125 (vY 5), oX4 aW vW, ai cI (aW 5) 7 (vW 5), ai cI (aW 6) 7 (vW 6), ai cI (aW 7) 7 (vW 7), ai cI (aW 8) 9 (vW 8), ai cI (aW 9) 9 (vW 9), ai cI (aW 10) 9 (vW 10), ai cI (aW 11) 6 (vW 11), ai cI (aW 12) 6 (vW 12), ai cI (aW 13) 6 (vW 13), oX2 aS vS] := hD
    refine lv_aload_n hx hb dX3_findWay_36 rfl (lv_at hl 0 rfl) ?_
    refine lv_aload_n hx hb dX3_findWay_37 rfl (lv_at hl 0 rfl) ?_
    refine va_get (D := G) (ci := 3) (v := .ref (aS 0)) (C := RX3) (T := TX3) (N := 14) hx hb hts fi_X3_findWay_X3 hown hEN.1 hP 0 rfl rfl 1 (by decide) (hts (.fieldLink RX3 25 "HourWell$Ways" "son" "LHourWell$Son;") (List.mem_of_getElem? (i := 2) rfl)) (fun _ h9 => h9) rfl dX3_findWay_38 ?_
    refine va_get (D := G) (ci := 2) (v := .int (vS 0 2)) (C := RX2) (T := TX2) (N := 8) hx hb hts fi_X3_findWay_X2 hown hEN.1 hP 14 rfl rfl 2 (by decide) (hts (.fieldLink RX3 51 "HourWell$Son" "things" "I") (List.mem_of_getElem? (i := 7) rfl)) (fun _ h9 => h9) rfl dX3_findWay_41 ?_
    refine va_put (D := G) (ci := 3) (v := .int (vS 0 2)) (ty := .int) (C := RX3) (T := TX3) (N := 14) hx hb hts fi_X3_findWay_X3 tyX3 tyX3_ok nmX3 hown hEN.1 hP hD hS 0 rfl rfl 10 (by decide) (hts (.fieldLink RX3 54 "HourWell$Ways" "fromThings" "I") (List.mem_of_getElem? (i := 8) rfl)) (fun _ h9 => h9) rfl (by decide +kernel) rfl rfl (Nat.le_of_ble_eq_true rfl) dX3_findWay_44 (fun H locs hP hD hS => ?_)
    have hP : va_P G vwCl [oX3 aY aW aS (st (st (st (st vY 0 7 x1) 0 8 (vS 0 0)) 0 9 (vS 0 1)) 0 10 (vS 0 2)), ai cI (aY 3) 427 (vY 3), ai cI (aY 4) 7 (vY 4), ai cI (aY 5) 125 (vY 5), oX4 aW vW, ai cI (aW 5) 7 (vW 5), ai cI (aW 6) 7 (vW 6), ai cI (aW 7) 7 (vW 7), ai cI (aW 8) 9 (vW 8), ai cI (aW 9) 9 (vW 9), ai cI (aW 10) 9 (vW 10), ai cI (aW 11) 6 (vW 11), ai cI (aW 12) 6 (vW 12), ai cI (aW 13) 6 (vW 13), oX2 aS vS] H := hP
    have hD : va_D A [oX3 aY aW aS (st (st (st (st vY 0 7 x1) 0 8 (vS 0 0)) 0 9 (vS 0 1)) 0 10 (vS 0 2)), ai cI (aY 3) 427 (vY 3), ai cI (aY 4) 7 (vY 4), ai cI (aY 5) 125 (vY 5), oX4 aW vW, ai cI (aW 5) 7 (vW 5), ai cI (aW 6) 7 (vW 6), ai cI (aW 7) 7 (vW 7), ai cI (aW 8) 9 (vW 8), ai cI (aW 9) 9 (vW 9), ai cI (aW 10) 9 (vW 10), ai cI (aW 11) 6 (vW 11), ai cI (aW 12) 6 (vW 12), ai cI (aW 13) 6 (vW 13), oX2 aS vS] := hD
    refine lv_aload_n hx hb dX3_findWay_47 rfl (lv_at hl 0 rfl) ?_
    refine lv_iconst (v := (0 : Int32)) hx hb dX3_findWay_48 k_iconst_0 ?_
    refine va_put (D := G) (ci := 3) (v := .int (0 : Int32)) (ty := .int) (C := RX3) (T := TX3) (N := 14) hx hb hts fi_X3_findWay_X3 tyX3 tyX3_ok nmX3 hown hEN.1 hP hD hS 0 rfl rfl 5 (by decide) (hts (.fieldLink RX3 57 "HourWell$Ways" "stepCount" "I") (List.mem_of_getElem? (i := 9) rfl)) (fun _ h9 => h9) rfl (by decide +kernel) rfl rfl (Nat.le_of_ble_eq_true rfl) dX3_findWay_49 (fun H locs hP hD hS => ?_)
    have hP : va_P G vwCl [oX3 aY aW aS (st (st (st (st (st vY 0 7 x1) 0 8 (vS 0 0)) 0 9 (vS 0 1)) 0 10 (vS 0 2)) 0 5 (0 : Int32)), ai cI (aY 3) 427 (vY 3), ai cI (aY 4) 7 (vY 4), ai cI (aY 5) 125 (vY 5), oX4 aW vW, ai cI (aW 5) 7 (vW 5), ai cI (aW 6) 7 (vW 6), ai cI (aW 7) 7 (vW 7), ai cI (aW 8) 9 (vW 8), ai cI (aW 9) 9 (vW 9), ai cI (aW 10) 9 (vW 10), ai cI (aW 11) 6 (vW 11), ai cI (aW 12) 6 (vW 12), ai cI (aW 13) 6 (vW 13), oX2 aS vS] H := hP
    have hD : va_D A [oX3 aY aW aS (st (st (st (st (st vY 0 7 x1) 0 8 (vS 0 0)) 0 9 (vS 0 1)) 0 10 (vS 0 2)) 0 5 (0 : Int32)), ai cI (aY 3) 427 (vY 3), ai cI (aY 4) 7 (vY 4), ai cI (aY 5) 125 (vY 5), oX4 aW vW, ai cI (aW 5) 7 (vW 5), ai cI (aW 6) 7 (vW 6), ai cI (aW 7) 7 (vW 7), ai cI (aW 8) 9 (vW 8), ai cI (aW 9) 9 (vW 9), ai cI (aW 10) 9 (vW 10), ai cI (aW 11) 6 (vW 11), ai cI (aW 12) 6 (vW 12), ai cI (aW 13) 6 (vW 13), oX2 aS vS] := hD
    refine lv_aload_n hx hb dX3_findWay_52 rfl (lv_at hl 0 rfl) ?_
    refine lv_aload_n hx hb dX3_findWay_53 rfl (lv_at hl 0 rfl) ?_
    refine lv_iload_n hx hb dX3_findWay_54 rfl (lv_at hl 1 rfl) ?_
    refine lv_iconst (v := (-1 : Int32)) hx hb dX3_findWay_55 k_iconst_n1 ?_
    refine lv_iconst (v := (-1 : Int32)) hx hb dX3_findWay_56 k_iconst_n1 ?_
    obtain ⟨o57, ho57, h⟩ := bnd_some h
    refine call_VJ (wr := []) (As := [.int x1, .int (-1 : Int32), .int (-1 : Int32)]) (rest := [.ref (aY 0)]) ⟨hx, hb, hml, hown, hts⟩ (c_X3_fewestHours l G cI cZ aY aW aS (st (st (st (st (st vY 0 7 x1) 0 8 (vS 0 0)) 0 9 (vS 0 1)) 0 10 (vS 0 2)) 0 5 (0 : Int32)) vW vS x1 (-1 : Int32) (-1 : Int32) o57 ho57) (cwV 3 hts gX3_findWay_X3_fewestHours rfl rfl rfl hdV_X3_fewestHours ⟨Nat.le_of_ble_eq_true rfl, Nat.le_of_ble_eq_true rfl⟩) hEN hA hP hD hS [0, 1, 2, 3, 4, 5, 6, 7, 8, 9, 10, 11, 12, 13, 14] [] rfl (by decide) rfl (by decide) (by decide) 0 rfl rfl rfl hl.1 rfl (Nat.le_of_ble_eq_true rfl) dX3_findWay_57 ⟨Nat.le_of_ble_eq_true rfl, Nat.le_of_ble_eq_true rfl⟩ (fun H locs hP hD hS => ?_)
    have hP : va_P G vwCl [oX3 aY aW aS o57.2, ai cI (aY 3) 427 (o57.2 3), ai cI (aY 4) 7 (o57.2 4), ai cI (aY 5) 125 (o57.2 5), oX4 aW vW, ai cI (aW 5) 7 (vW 5), ai cI (aW 6) 7 (vW 6), ai cI (aW 7) 7 (vW 7), ai cI (aW 8) 9 (vW 8), ai cI (aW 9) 9 (vW 9), ai cI (aW 10) 9 (vW 10), ai cI (aW 11) 6 (vW 11), ai cI (aW 12) 6 (vW 12), ai cI (aW 13) 6 (vW 13), oX2 aS vS] H := hP
    have hD : va_D A [oX3 aY aW aS o57.2, ai cI (aY 3) 427 (o57.2 3), ai cI (aY 4) 7 (o57.2 4), ai cI (aY 5) 125 (o57.2 5), oX4 aW vW, ai cI (aW 5) 7 (vW 5), ai cI (aW 6) 7 (vW 6), ai cI (aW 7) 7 (vW 7), ai cI (aW 8) 9 (vW 8), ai cI (aW 9) 9 (vW 9), ai cI (aW 10) 9 (vW 10), ai cI (aW 11) 6 (vW 11), ai cI (aW 12) 6 (vW 12), ai cI (aW 13) 6 (vW 13), oX2 aS vS] := hD
    refine va_put (D := G) (ci := 3) (v := .int o57.1) (ty := .int) (C := RX3) (T := TX3) (N := 14) hx hb hts fi_X3_findWay_X3 tyX3 tyX3_ok nmX3 hown hEN.1 hP hD hS 0 rfl rfl 6 (by decide) (hts (.fieldLink RX3 64 "HourWell$Ways" "wayHours" "I") (List.mem_of_getElem? (i := 10) rfl)) (fun _ h9 => h9) rfl (by decide +kernel) rfl rfl (Nat.le_of_ble_eq_true rfl) dX3_findWay_60 (fun H locs hP hD hS => ?_)
    have hP : va_P G vwCl [oX3 aY aW aS (st o57.2 0 6 o57.1), ai cI (aY 3) 427 (o57.2 3), ai cI (aY 4) 7 (o57.2 4), ai cI (aY 5) 125 (o57.2 5), oX4 aW vW, ai cI (aW 5) 7 (vW 5), ai cI (aW 6) 7 (vW 6), ai cI (aW 7) 7 (vW 7), ai cI (aW 8) 9 (vW 8), ai cI (aW 9) 9 (vW 9), ai cI (aW 10) 9 (vW 10), ai cI (aW 11) 6 (vW 11), ai cI (aW 12) 6 (vW 12), ai cI (aW 13) 6 (vW 13), oX2 aS vS] H := hP
    have hD : va_D A [oX3 aY aW aS (st o57.2 0 6 o57.1), ai cI (aY 3) 427 (o57.2 3), ai cI (aY 4) 7 (o57.2 4), ai cI (aY 5) 125 (o57.2 5), oX4 aW vW, ai cI (aW 5) 7 (vW 5), ai cI (aW 6) 7 (vW 6), ai cI (aW 7) 7 (vW 7), ai cI (aW 8) 9 (vW 8), ai cI (aW 9) 9 (vW 9), ai cI (aW 10) 9 (vW 10), ai cI (aW 11) 6 (vW 11), ai cI (aW 12) 6 (vW 12), ai cI (aW 13) 6 (vW 13), oX2 aS vS] := hD
    refine lv_aload_n hx hb dX3_findWay_63 rfl (lv_at hl 0 rfl) ?_
    refine va_get (D := G) (ci := 3) (v := .int o57.1) (C := RX3) (T := TX3) (N := 14) hx hb hts fi_X3_findWay_X3 hown hEN.1 hP 0 rfl rfl 6 (by decide) (hts (.fieldLink RX3 64 "HourWell$Ways" "wayHours" "I") (List.mem_of_getElem? (i := 10) rfl)) (fun _ h9 => h9) rfl dX3_findWay_64 ?_
    refine lv_bipush (v := (-9 : Int32)) hx hb dX3_findWay_67 k_bipush_n9 ?_
    refine lv_icmp_ne (tgt := 73) hx hb dX3_findWay_69 (by decide) (fun c69 => ?_) (fun c69 => ?_)
    · have h := (if_neg c69).symm.trans h
      refine lv_aload_n hx hb dX3_findWay_73 rfl (lv_at hl 0 rfl) ?_
      refine lv_iload_n hx hb dX3_findWay_74 rfl (lv_at hl 1 rfl) ?_
      refine lv_aload_n hx hb dX3_findWay_75 rfl (lv_at hl 0 rfl) ?_
      refine va_get (D := G) (ci := 3) (v := .int o57.1) (C := RX3) (T := TX3) (N := 14) hx hb hts fi_X3_findWay_X3 hown hEN.1 hP 0 rfl rfl 6 (by decide) (hts (.fieldLink RX3 64 "HourWell$Ways" "wayHours" "I") (List.mem_of_getElem? (i := 10) rfl)) (fun _ h9 => h9) rfl dX3_findWay_76 ?_
      obtain ⟨o79, ho79, h⟩ := bnd_some h
      refine call_VJ (wr := []) (As := [.int x1, .int o57.1]) (rest := []) ⟨hx, hb, hml, hown, hts⟩ (c_X3_fillBackward l G cI cZ aY aW aS (st o57.2 0 6 o57.1) vW vS x1 o57.1 o79 ho79) (cwV 2 hts gX3_findWay_X3_fillBackward rfl rfl rfl hdV_X3_fillBackward ⟨Nat.le_of_ble_eq_true rfl, Nat.le_of_ble_eq_true rfl⟩) hEN hA hP hD hS [0, 1, 2, 3, 4, 5, 6, 7, 8, 9, 10, 11, 12, 13, 14] [] rfl (by decide) rfl (by decide) (by decide) 0 rfl rfl rfl hl.1 rfl (Nat.le_of_ble_eq_true rfl) dX3_findWay_79 ⟨Nat.le_of_ble_eq_true rfl, Nat.le_of_ble_eq_true rfl⟩ (fun H locs hP hD hS => ?_)
      have hP : va_P G vwCl [oX3 aY aW aS o79, ai cI (aY 3) 427 (o79 3), ai cI (aY 4) 7 (o79 4), ai cI (aY 5) 125 (o79 5), oX4 aW vW, ai cI (aW 5) 7 (vW 5), ai cI (aW 6) 7 (vW 6), ai cI (aW 7) 7 (vW 7), ai cI (aW 8) 9 (vW 8), ai cI (aW 9) 9 (vW 9), ai cI (aW 10) 9 (vW 10), ai cI (aW 11) 6 (vW 11), ai cI (aW 12) 6 (vW 12), ai cI (aW 13) 6 (vW 13), oX2 aS vS] H := hP
      have hD : va_D A [oX3 aY aW aS o79, ai cI (aY 3) 427 (o79 3), ai cI (aY 4) 7 (o79 4), ai cI (aY 5) 125 (o79 5), oX4 aW vW, ai cI (aW 5) 7 (vW 5), ai cI (aW 6) 7 (vW 6), ai cI (aW 7) 7 (vW 7), ai cI (aW 8) 9 (vW 8), ai cI (aW 9) 9 (vW 9), ai cI (aW 10) 9 (vW 10), ai cI (aW 11) 6 (vW 11), ai cI (aW 12) 6 (vW 12), ai cI (aW 13) 6 (vW 13), oX2 aS vS] := hD
      refine lv_aload_n hx hb dX3_findWay_82 rfl (lv_at hl 0 rfl) ?_
      obtain ⟨o83, ho83, h⟩ := bnd_some h
      refine call_VJ (wr := [oX4 aW vW, ai cI (aW 5) 7 (vW 5), ai cI (aW 6) 7 (vW 6), ai cI (aW 7) 7 (vW 7), ai cI (aW 8) 9 (vW 8), ai cI (aW 9) 9 (vW 9), ai cI (aW 10) 9 (vW 10), ai cI (aW 11) 6 (vW 11), ai cI (aW 12) 6 (vW 12), ai cI (aW 13) 6 (vW 13), oX2 aS vS]) (As := []) (rest := []) ⟨hx, hb, hml, hown, hts⟩ (c_X3_standAtStart l G cI cZ aY aW aS o79 o83 ho83) (cwV 0 hts gX3_findWay_X3_standAtStart rfl rfl rfl hdV_X3_standAtStart ⟨Nat.le_of_ble_eq_true rfl, Nat.le_of_ble_eq_true rfl⟩) hEN hA hP hD hS [0, 1, 2, 3] [4, 5, 6, 7, 8, 9, 10, 11, 12, 13, 14] rfl (by decide) rfl (by decide) (by decide) 0 rfl rfl rfl hl.1 rfl (Nat.le_of_ble_eq_true rfl) dX3_findWay_83 ⟨Nat.le_of_ble_eq_true rfl, Nat.le_of_ble_eq_true rfl⟩ (fun H locs hP hD hS => ?_)
      have hP : va_P G vwCl [oX4 aW vW, ai cI (aW 5) 7 (vW 5), ai cI (aW 6) 7 (vW 6), ai cI (aW 7) 7 (vW 7), ai cI (aW 8) 9 (vW 8), ai cI (aW 9) 9 (vW 9), ai cI (aW 10) 9 (vW 10), ai cI (aW 11) 6 (vW 11), ai cI (aW 12) 6 (vW 12), ai cI (aW 13) 6 (vW 13), oX2 aS vS, oX3 aY aW aS o83, ai cI (aY 3) 427 (o83 3), ai cI (aY 4) 7 (o83 4), ai cI (aY 5) 125 (o83 5)] H := hP
      have hD : va_D A [oX4 aW vW, ai cI (aW 5) 7 (vW 5), ai cI (aW 6) 7 (vW 6), ai cI (aW 7) 7 (vW 7), ai cI (aW 8) 9 (vW 8), ai cI (aW 9) 9 (vW 9), ai cI (aW 10) 9 (vW 10), ai cI (aW 11) 6 (vW 11), ai cI (aW 12) 6 (vW 12), ai cI (aW 13) 6 (vW 13), oX2 aS vS, oX3 aY aW aS o83, ai cI (aY 3) 427 (o83 3), ai cI (aY 4) 7 (o83 4), ai cI (aY 5) 125 (o83 5)] := hD
      refine lv_iconst (v := (0 : Int32)) hx hb dX3_findWay_86 k_iconst_0 ?_
      refine lv_istore_n (lv' := [(2, .int (0 : Int32)), (0, .ref (aY 0)), (1, .int x1)]) hx hb dX3_findWay_87 rfl hl (by decide) rfl (fun ls hl => ?_)
      obtain ⟨o88_1, ho88_1, h⟩ := bnd_some h
      refine L88 o88_1 (fun r er => ?_) (fun o88_1x er H locs ls hP hD hS hl => ?_) FU o83 (0 : Int32) ho88_1 _ _ _ (hP.sub [11, 12, 13, 14, 0, 1, 2, 3, 4, 5, 6, 7, 8, 9, 10] rfl) (hD.sub [11, 12, 13, 14, 0, 1, 2, 3, 4, 5, 6, 7, 8, 9, 10] (by decide) rfl) hS (lv_sub hl [1, 0] rfl)
      · subst er
        have h := (sm_l _ _ _).symm.trans h
        exact Option.some.inj h
      · subst er
        have h := (sm_r _ _ _).symm.trans h
        have hres := Option.some.inj h
        subst hres
        exact hRet 131 _ _ _ hP hD hS dX3_findWay_131
    · have h := (if_pos c69).symm.trans h
      have hres := Option.some.inj h
      subst hres
      exact hRet 72 _ _ _ hP hD hS dX3_findWay_72
  · have h := (if_neg c5).symm.trans h
    have hres := Option.some.inj h
    subst hres
    exact hRet 8 _ _ _ hP hD hS dX3_findWay_8
abbrev rm_X3_stepOfWay : Room := { frames := 0, cells := 0, slots := 0, locals := 0 }
theorem fi_X3_stepOfWay_X3 : ∀ w ∈ wsX30, w ∈ wsX3_stepOfWay := fun _ h => List.mem_cons_of_mem _ (List.mem_append_right _ h)
theorem hdV_X3_stepOfWay : yX3_stepOfWay.cls = RX3 ∧ yX3_stepOfWay.cls ≠ "java/lang/invoke/MethodHandle" ∧ yX3_stepOfWay.cls ≠ "java/lang/invoke/VarHandle" ∧ (parseMethodDescriptor yX3_stepOfWay.desc).map (fun d => d.parameters.length) = some 1 := by decide +kernel
set_option maxRecDepth 100000 in
set_option maxHeartbeats 4000000 in
theorem c_X3_stepOfWay (l : Launch) (G : va_G) (cI cZ : ClassId) (aY : Nat → Nat) (aW : Nat → Nat) (aS : Nat → Nat) (vY : Ob) (x1 : Int32) (res : Int32) (h : m_X3_stepOfWay vY x1 = some res) : Ct l yX3_stepOfWay wsX3_stepOfWay rm_X3_stepOfWay G cI cZ [.ref (aY 0), .int x1] [oX3 aY aW aS vY, ai cI (aY 5) 125 (vY 5)] (some (.int res)) [oX3 aY aW aS vY, ai cI (aY 5) 125 (vY 5)] := by
  refine Ct.of_i (maxL := 2) (by decide) rfl (Nat.le_of_ble_eq_true rfl) ?_
  intro p e s m below meth c args hx hb hml hown hts A hA hEN hP hD hS Q hRet ls hl
  have hown : s.vm.findClass RX3 = some m.cls := hown
  have hl : lv_has ls 2 [(0, .ref (aY 0)), (1, .int x1)] := hl
  unfold m_X3_stepOfWay at h
  refine lv_iload_n hx hb dX3_stepOfWay_0 rfl (lv_at hl 1 rfl) ?_
  refine lv_if_lt (tgt := 27) hx hb dX3_stepOfWay_1 (by decide) (fun c1 => ?_) (fun c1 => ?_)
  · have h := (if_pos c1).symm.trans h
    refine lv_bipush (v := (-9 : Int32)) hx hb dX3_stepOfWay_27 k_bipush_n9 ?_
    have hres := Option.some.inj h
    subst hres
    exact hRet 29 _ _ _ hP hD hS dX3_stepOfWay_29
  · have h := (if_neg c1).symm.trans h
    refine lv_iload_n hx hb dX3_stepOfWay_4 rfl (lv_at hl 1 rfl) ?_
    refine lv_aload_n hx hb dX3_stepOfWay_5 rfl (lv_at hl 0 rfl) ?_
    refine va_get (D := G) (ci := 3) (v := .int (vY 0 5)) (C := RX3) (T := TX3) (N := 14) hx hb hts fi_X3_stepOfWay_X3 hown hEN.1 hP 0 rfl rfl 5 (by decide) (hts (.fieldLink RX3 57 "HourWell$Ways" "stepCount" "I") (List.mem_of_getElem? (i := 1) rfl)) (fun _ h9 => h9) rfl dX3_stepOfWay_6 ?_
    refine lv_icmp_ge (tgt := 27) hx hb dX3_stepOfWay_9 (by decide) (fun c9 => ?_) (fun c9 => ?_)
    · have h := (if_pos c9).symm.trans h
      refine lv_bipush (v := (-9 : Int32)) hx hb dX3_stepOfWay_27 k_bipush_n9 ?_
      have hres := Option.some.inj h
      subst hres
      exact hRet 29 _ _ _ hP hD hS dX3_stepOfWay_29
    · have h := (if_neg c9).symm.trans h
      refine lv_iload_n hx hb dX3_stepOfWay_12 rfl (lv_at hl 1 rfl) ?_
      refine lv_bipush (v := (125 : Int32)) hx hb dX3_stepOfWay_13 k_bipush_125 ?_
      refine lv_icmp_ge (tgt := 27) hx hb dX3_stepOfWay_15 (by decide) (fun c15 => ?_) (fun c15 => ?_)
      · have h := (if_pos c15).symm.trans h
        refine lv_bipush (v := (-9 : Int32)) hx hb dX3_stepOfWay_27 k_bipush_n9 ?_
        have hres := Option.some.inj h
        subst hres
        exact hRet 29 _ _ _ hP hD hS dX3_stepOfWay_29
      · have h := (if_neg c15).symm.trans h
        refine lv_aload_n hx hb dX3_stepOfWay_18 rfl (lv_at hl 0 rfl) ?_
        refine va_get (D := G) (ci := 3) (v := .ref (aY 5)) (C := RX3) (T := TX3) (N := 14) hx hb hts fi_X3_stepOfWay_X3 hown hEN.1 hP 0 rfl rfl 4 (by decide) (hts (.fieldLink RX3 18 "HourWell$Ways" "steps" "[I") (List.mem_of_getElem? (i := 2) rfl)) (fun _ h9 => h9) rfl dX3_stepOfWay_19 ?_
        refine lv_iload_n hx hb dX3_stepOfWay_22 rfl (lv_at hl 1 rfl) ?_
        obtain ⟨hg23, h⟩ := grd_some h
        refine va_iald (f := (vY 5)) hx hb hEN.1 hP 1 0 rfl rfl (inb_in hg23) dX3_stepOfWay_23 ?_
        refine lv_goto (tgt := 29) hx hb dX3_stepOfWay_24 (by decide) ?_
        have hres := Option.some.inj h
        subst hres
        exact hRet 29 _ _ _ hP hD hS dX3_stepOfWay_29
abbrev rm_X3_brotherHoursTo : Room := { frames := 1, cells := 0, slots := 0, locals := 21 }
theorem fi_X3_brotherHoursTo_X3 : ∀ w ∈ wsX30, w ∈ wsX3_brotherHoursTo := fun _ h => List.mem_cons_of_mem _ (List.mem_append_left _ (List.mem_append_right _ h))
theorem fi_X3_brotherHoursTo_X4 : ∀ w ∈ wsX40, w ∈ wsX3_brotherHoursTo := fun _ h => List.mem_cons_of_mem _ (List.mem_append_right _ h)
theorem hdV_X3_brotherHoursTo : yX3_brotherHoursTo.cls = RX3 ∧ yX3_brotherHoursTo.cls ≠ "java/lang/invoke/MethodHandle" ∧ yX3_brotherHoursTo.cls ≠ "java/lang/invoke/VarHandle" ∧ (parseMethodDescriptor yX3_brotherHoursTo.desc).map (fun d => d.parameters.length) = some 1 := by decide +kernel
set_option maxRecDepth 100000 in
set_option maxHeartbeats 4000000 in
theorem c_X3_brotherHoursTo (l : Launch) (G : va_G) (cI cZ : ClassId) (aY : Nat → Nat) (aW : Nat → Nat) (aS : Nat → Nat) (vY : Ob) (vW : Ob) (x1 : Int32) (res : Int32) (h : m_X3_brotherHoursTo vY vW x1 = some res) : Ct l yX3_brotherHoursTo wsX3_brotherHoursTo rm_X3_brotherHoursTo G cI cZ [.ref (aY 0), .int x1] [oX3 aY aW aS vY, ai cI (aY 4) 7 (vY 4), oX4 aW vW] (some (.int res)) [oX3 aY aW aS vY, ai cI (aY 4) 7 (vY 4), oX4 aW vW] := by
  refine Ct.of_i (maxL := 2) (by decide) rfl (Nat.le_of_ble_eq_true rfl) ?_
  intro p e s m below meth c args hx hb hml hown hts A hA hEN hP hD hS Q hRet ls hl
  have hown : s.vm.findClass RX3 = some m.cls := hown
  have hl : lv_has ls 2 [(0, .ref (aY 0)), (1, .int x1)] := hl
  unfold m_X3_brotherHoursTo at h
  refine lv_aload_n hx hb dX3_brotherHoursTo_0 rfl (lv_at hl 0 rfl) ?_
  refine va_get (D := G) (ci := 3) (v := .ref (aW 0)) (C := RX3) (T := TX3) (N := 14) hx hb hts fi_X3_brotherHoursTo_X3 hown hEN.1 hP 0 rfl rfl 0 (by decide) (hts (.fieldLink RX3 21 "HourWell$Ways" "world" "LHourWell$World;") (List.mem_of_getElem? (i := 1) rfl)) (fun _ h9 => h9) rfl dX3_brotherHoursTo_1 ?_
  refine lv_iload_n hx hb dX3_brotherHoursTo_4 rfl (lv_at hl 1 rfl) ?_
  obtain ⟨o5, ho5, h⟩ := bnd_some h
  refine call_V0 (As := [.int x1]) (rest := []) ⟨hx, hb, hml, hown, hts⟩ (c_X4_hasPlace l G cI cZ aW vW x1 o5 ho5) (cwV 1 hts gX3_brotherHoursTo_X4_hasPlace rfl rfl rfl hdV_X4_hasPlace ⟨Nat.le_of_ble_eq_true rfl, Nat.le_of_ble_eq_true rfl⟩) hEN hA hP hD hS [2] rfl (by decide) 2 rfl rfl rfl hl.1 rfl (Nat.le_of_ble_eq_true rfl) dX3_brotherHoursTo_5 ⟨Nat.le_of_ble_eq_true rfl, Nat.le_of_ble_eq_true rfl⟩ (fun H locs hP hS => ?_)
  refine lv_if_eq (tgt := 20) hx hb dX3_brotherHoursTo_8 (by decide) (fun c8 => ?_) (fun c8 => ?_)
  · have h := (if_pos c8).symm.trans h
    refine lv_sipush (v := (1000 : Int32)) hx hb dX3_brotherHoursTo_20 k_sipush_1000 ?_
    have hres := Option.some.inj h
    subst hres
    exact hRet 23 _ _ _ hP hD hS dX3_brotherHoursTo_23
  · have h := (if_neg c8).symm.trans h
    refine lv_aload_n hx hb dX3_brotherHoursTo_11 rfl (lv_at hl 0 rfl) ?_
    refine va_get (D := G) (ci := 3) (v := .ref (aY 4)) (C := RX3) (T := TX3) (N := 14) hx hb hts fi_X3_brotherHoursTo_X3 hown hEN.1 hP 0 rfl rfl 3 (by decide) (hts (.fieldLink RX3 15 "HourWell$Ways" "brotherHours" "[I") (List.mem_of_getElem? (i := 2) rfl)) (fun _ h9 => h9) rfl dX3_brotherHoursTo_12 ?_
    refine lv_iload_n hx hb dX3_brotherHoursTo_15 rfl (lv_at hl 1 rfl) ?_
    obtain ⟨hg16, h⟩ := grd_some h
    refine va_iald (f := (vY 4)) hx hb hEN.1 hP 1 0 rfl rfl (inb_in hg16) dX3_brotherHoursTo_16 ?_
    refine lv_goto (tgt := 23) hx hb dX3_brotherHoursTo_17 (by decide) ?_
    have hres := Option.some.inj h
    subst hres
    exact hRet 23 _ _ _ hP hD hS dX3_brotherHoursTo_23
abbrev rm_X3_shortenBrother : Room := { frames := 2, cells := 0, slots := 0, locals := 42 }
theorem fi_X3_shortenBrother_X3 : ∀ w ∈ wsX30, w ∈ wsX3_shortenBrother := fun _ h => List.mem_cons_of_mem _ (List.mem_append_left _ (List.mem_append_right _ h))
theorem fi_X3_shortenBrother_X4 : ∀ w ∈ wsX40, w ∈ wsX3_shortenBrother := fun _ h => List.mem_cons_of_mem _ (List.mem_append_right _ h)
theorem hdV_X3_shortenBrother : yX3_shortenBrother.cls = RX3 ∧ yX3_shortenBrother.cls ≠ "java/lang/invoke/MethodHandle" ∧ yX3_shortenBrother.cls ≠ "java/lang/invoke/VarHandle" ∧ (parseMethodDescriptor yX3_shortenBrother.desc).map (fun d => d.parameters.length) = some 3 := by decide +kernel
set_option maxRecDepth 100000 in
set_option maxHeartbeats 4000000 in
theorem c_X3_shortenBrother (l : Launch) (G : va_G) (cI cZ : ClassId) (aY : Nat → Nat) (aW : Nat → Nat) (aS : Nat → Nat) (vY : Ob) (vW : Ob) (x1 : Int32) (x2 : Int32) (x3 : Int32) (res : Ob) (h : m_X3_shortenBrother vY vW x1 x2 x3 = some res) : Ct l yX3_shortenBrother wsX3_shortenBrother rm_X3_shortenBrother G cI cZ [.ref (aY 0), .int x1, .int x2, .int x3] [oX3 aY aW aS vY, ai cI (aY 3) 427 (vY 3), ai cI (aY 4) 7 (vY 4), ai cI (aY 5) 125 (vY 5), oX4 aW vW, ai cI (aW 10) 9 (vW 10)] none [oX3 aY aW aS res, ai cI (aY 3) 427 (res 3), ai cI (aY 4) 7 (res 4), ai cI (aY 5) 125 (res 5), oX4 aW vW, ai cI (aW 10) 9 (vW 10)] := by
  refine Ct.of_v (maxL := 5) (by decide) rfl (Nat.le_of_ble_eq_true rfl) ?_
  intro p e s m below meth c args hx hb hml hown hts A hA hEN hP hD hS Q hRet ls hl
  have hown : s.vm.findClass RX3 = some m.cls := hown
  have hl : lv_has ls 5 [(0, .ref (aY 0)), (1, .int x1), (2, .int x2), (3, .int x3)] := hl
  unfold m_X3_shortenBrother at h
  refine lv_aload_n hx hb dX3_shortenBrother_0 rfl (lv_at hl 0 rfl) ?_
  refine lv_iload_n hx hb dX3_shortenBrother_1 rfl (lv_at hl 2 rfl) ?_
  obtain ⟨o2, ho2, h⟩ := bnd_some h
  refine call_V0 (As := [.int x2]) (rest := []) ⟨hx, hb, hml, hown, hts⟩ (c_X3_brotherHoursTo l G cI cZ aY aW aS vY vW x2 o2 ho2) (cwV 1 hts gX3_shortenBrother_X3_brotherHoursTo rfl rfl rfl hdV_X3_brotherHoursTo ⟨Nat.le_of_ble_eq_true rfl, Nat.le_of_ble_eq_true rfl⟩) hEN hA hP hD hS [0, 2, 4] rfl (by decide) 0 rfl rfl rfl hl.1 rfl (Nat.le_of_ble_eq_true rfl) dX3_shortenBrother_2 ⟨Nat.le_of_ble_eq_true rfl, Nat.le_of_ble_eq_true rfl⟩ (fun H locs hP hS => ?_)
  refine lv_aload_n hx hb dX3_shortenBrother_5 rfl (lv_at hl 0 rfl) ?_
  refine va_get (D := G) (ci := 3) (v := .ref (aW 0)) (C := RX3) (T := TX3) (N := 14) hx hb hts fi_X3_shortenBrother_X3 hown hEN.1 hP 0 rfl rfl 0 (by decide) (hts (.fieldLink RX3 21 "HourWell$Ways" "world" "LHourWell$World;") (List.mem_of_getElem? (i := 1) rfl)) (fun _ h9 => h9) rfl dX3_shortenBrother_6 ?_
  refine lv_iload_n hx hb dX3_shortenBrother_9 rfl (lv_at hl 1 rfl) ?_
  obtain ⟨o10, ho10, h⟩ := bnd_some h
  refine call_V0 (As := [.int x1]) (rest := [.int o2]) ⟨hx, hb, hml, hown, hts⟩ (c_X4_roadHours l G cI cZ aW vW x1 o10 ho10) (cwV 1 hts gX3_shortenBrother_X4_roadHours rfl rfl rfl hdV_X4_roadHours ⟨Nat.le_of_ble_eq_true rfl, Nat.le_of_ble_eq_true rfl⟩) hEN hA hP hD hS [4, 5] rfl (by decide) 4 rfl rfl rfl hl.1 rfl (Nat.le_of_ble_eq_true rfl) dX3_shortenBrother_10 ⟨Nat.le_of_ble_eq_true rfl, Nat.le_of_ble_eq_true rfl⟩ (fun H locs hP hS => ?_)
  refine lv_iadd hx hb dX3_shortenBrother_13 ?_
  refine lv_istore (lv' := [(4, .int (o2 + o10)), (0, .ref (aY 0)), (1, .int x1), (2, .int x2), (3, .int x3)]) hx hb dX3_shortenBrother_14 hl (by decide) rfl (fun ls hl => ?_)
  refine lv_aload_n hx hb dX3_shortenBrother_16 rfl (lv_at hl 1 rfl) ?_
  refine va_get (D := G) (ci := 3) (v := .ref (aW 0)) (C := RX3) (T := TX3) (N := 14) hx hb hts fi_X3_shortenBrother_X3 hown hEN.1 hP 0 rfl rfl 0 (by decide) (hts (.fieldLink RX3 21 "HourWell$Ways" "world" "LHourWell$World;") (List.mem_of_getElem? (i := 1) rfl)) (fun _ h9 => h9) rfl dX3_shortenBrother_17 ?_
  refine lv_iload_n hx hb dX3_shortenBrother_20 rfl (lv_at hl 4 rfl) ?_
  obtain ⟨o21, ho21, h⟩ := bnd_some h
  refine call_V0 (As := [.int x3]) (rest := []) ⟨hx, hb, hml, hown, hts⟩ (c_X4_hasPlace l G cI cZ aW vW x3 o21 ho21) (cwV 1 hts gX3_shortenBrother_X4_hasPlace rfl rfl rfl hdV_X4_hasPlace ⟨Nat.le_of_ble_eq_true rfl, Nat.le_of_ble_eq_true rfl⟩) hEN hA hP hD hS [4] rfl (by decide) 4 rfl rfl rfl hl.1 rfl (Nat.le_of_ble_eq_true rfl) dX3_shortenBrother_21 ⟨Nat.le_of_ble_eq_true rfl, Nat.le_of_ble_eq_true rfl⟩ (fun H locs hP hS => ?_)
  refine lv_if_eq (tgt := 46) hx hb dX3_shortenBrother_24 (by decide) (fun c24 => ?_) (fun c24 => ?_)
  · have h := (if_pos c24).symm.trans h
    have hres := Option.some.inj h
    subst hres
    exact hRet 46 _ _ _ hP hD hS dX3_shortenBrother_46
  · have h := (if_neg c24).symm.trans h
    refine lv_iload hx hb dX3_shortenBrother_27 (lv_at hl 0 rfl) ?_
    refine lv_aload_n hx hb dX3_shortenBrother_29 rfl (lv_at hl 1 rfl) ?_
    refine va_get (D := G) (ci := 3) (v := .ref (aY 4)) (C := RX3) (T := TX3) (N := 14) hx hb hts fi_X3_shortenBrother_X3 hown hEN.1 hP 0 rfl rfl 3 (by decide) (hts (.fieldLink RX3 15 "HourWell$Ways" "brotherHours" "[I") (List.mem_of_getElem? (i := 2) rfl)) (fun _ h9 => h9) rfl dX3_shortenBrother_30 ?_
    refine lv_iload_n hx hb dX3_shortenBrother_33 rfl (lv_at hl 4 rfl) ?_
    obtain ⟨hg34, h⟩ := grd_some h
    refine va_iald (f := (vY 4)) hx hb hEN.1 hP 2 0 rfl rfl (inb_in hg34) dX3_shortenBrother_34 ?_
    refine lv_icmp_ge (tgt := 46) hx hb dX3_shortenBrother_35 (by decide) (fun c35 => ?_) (fun c35 => ?_)
    · have h := (if_pos c35).symm.trans h
      have hres := Option.some.inj h
      subst hres
      exact hRet 46 _ _ _ hP hD hS dX3_shortenBrother_46
    · have h := (if_neg c35).symm.trans h
      refine lv_aload_n hx hb dX3_shortenBrother_38 rfl (lv_at hl 1 rfl) ?_
      refine va_get (D := G) (ci := 3) (v := .ref (aY 4)) (C := RX3) (T := TX3) (N := 14) hx hb hts fi_X3_shortenBrother_X3 hown hEN.1 hP 0 rfl rfl 3 (by decide) (hts (.fieldLink RX3 15 "HourWell$Ways" "brotherHours" "[I") (List.mem_of_getElem? (i := 2) rfl)) (fun _ h9 => h9) rfl dX3_shortenBrother_39 ?_
      refine lv_iload_n hx hb dX3_shortenBrother_42 rfl (lv_at hl 4 rfl) ?_
      refine lv_iload hx hb dX3_shortenBrother_43 (lv_at hl 0 rfl) ?_
      obtain ⟨hg45, h⟩ := grd_some h
      refine va_iast (f := (vY 4)) hx hb hEN.1 hP hD hS 2 0 rfl rfl (inb_in hg45) dX3_shortenBrother_45 (fun H locs hP hD hS => ?_)
      have hP : va_P G vwCl [oX3 aY aW aS vY, ai cI (aY 3) 427 (vY 3), ai cI (aY 4) 7 (upd (vY 4) (Int32.toNatClampNeg x3) (o2 + o10)), ai cI (aY 5) 125 (vY 5), oX4 aW vW, ai cI (aW 10) 9 (vW 10)] H := hP
      have hD : va_D A [oX3 aY aW aS vY, ai cI (aY 3) 427 (vY 3), ai cI (aY 4) 7 (upd (vY 4) (Int32.toNatClampNeg x3) (o2 + o10)), ai cI (aY 5) 125 (vY 5), oX4 aW vW, ai cI (aW 10) 9 (vW 10)] := hD
      have hres := Option.some.inj h
      subst hres
      exact hRet 46 _ _ _ hP hD hS dX3_shortenBrother_46
abbrev rm_X3_measureBrother : Room := { frames := 3, cells := 0, slots := 0, locals := 66 }
theorem fi_X3_measureBrother_X3 : ∀ w ∈ wsX30, w ∈ wsX3_measureBrother := fun _ h => List.mem_cons_of_mem _ (List.mem_append_left _ (List.mem_append_right _ h))
theorem fi_X3_measureBrother_X4 : ∀ w ∈ wsX40, w ∈ wsX3_measureBrother := fun _ h => List.mem_cons_of_mem _ (List.mem_append_right _ h)
theorem hdV_X3_measureBrother : yX3_measureBrother.cls = RX3 ∧ yX3_measureBrother.cls ≠ "java/lang/invoke/MethodHandle" ∧ yX3_measureBrother.cls ≠ "java/lang/invoke/VarHandle" ∧ (parseMethodDescriptor yX3_measureBrother.desc).map (fun d => d.parameters.length) = some 1 := by decide +kernel
set_option maxRecDepth 100000 in
set_option maxHeartbeats 4000000 in
theorem c_X3_measureBrother (l : Launch) (G : va_G) (cI cZ : ClassId) (aY : Nat → Nat) (aW : Nat → Nat) (aS : Nat → Nat) (vY : Ob) (vW : Ob) (x1 : Int32) (res : Ob) (h : m_X3_measureBrother vY vW x1 = some res) : Ct l yX3_measureBrother wsX3_measureBrother rm_X3_measureBrother G cI cZ [.ref (aY 0), .int x1] [oX3 aY aW aS vY, ai cI (aY 3) 427 (vY 3), ai cI (aY 4) 7 (vY 4), ai cI (aY 5) 125 (vY 5), oX4 aW vW, ai cI (aW 8) 9 (vW 8), ai cI (aW 9) 9 (vW 9), ai cI (aW 10) 9 (vW 10)] none [oX3 aY aW aS res, ai cI (aY 3) 427 (res 3), ai cI (aY 4) 7 (res 4), ai cI (aY 5) 125 (res 5), oX4 aW vW, ai cI (aW 8) 9 (vW 8), ai cI (aW 9) 9 (vW 9), ai cI (aW 10) 9 (vW 10)] := by
  refine Ct.of_v (maxL := 4) (by decide) rfl (Nat.le_of_ble_eq_true rfl) ?_
  intro p e s m below meth c args hx hb hml hown hts A hA hEN hP hD hS Q hRet ls hl
  have hown : s.vm.findClass RX3 = some m.cls := hown
  have hl : lv_has ls 4 [(0, .ref (aY 0)), (1, .int x1)] := hl
  have L2 : ∀ (out : Ob), (∀ ex : Ob, out = ex → ∀ (H : Heap) (locs : List Loc) (ls : Array Slot), va_P G vwCl [oX3 aY aW aS ex, ai cI (aY 3) 427 (ex 3), ai cI (aY 4) 7 (ex 4), ai cI (aY 5) 125 (ex 5), oX4 aW vW, ai cI (aW 8) 9 (vW 8), ai cI (aW 9) 9 (vW 9), ai cI (aW 10) 9 (vW 10)] H → va_D A [oX3 aY aW aS ex, ai cI (aY 3) 427 (ex 3), ai cI (aY 4) 7 (ex 4), ai cI (aY 5) 125 (ex 5), oX4 aW vW, ai cI (aW 8) 9 (vW 8), ai cI (aW 9) 9 (vW 9), ai cI (aW 10) 9 (vW 10)] → va_S A s.heap H locs → lv_has ls 4 [(0, .ref (aY 0))] → W p l e rm_X3_measureBrother s m args below meth c H locs 0 0 Q (F0 m 32 ls [])) → ∀ (n : Nat) (vY : Ob) (x1 : Int32) (x2 : Int32), m_X3_measureBrother_L2 vW n vY x1 x2 = some out → ∀ (H : Heap) (locs : List Loc) (ls : Array Slot), va_P G vwCl [oX3 aY aW aS vY, ai cI (aY 3) 427 (vY 3), ai cI (aY 4) 7 (vY 4), ai cI (aY 5) 125 (vY 5), oX4 aW vW, ai cI (aW 8) 9 (vW 8), ai cI (aW 9) 9 (vW 9), ai cI (aW 10) 9 (vW 10)] H → va_D A [oX3 aY aW aS vY, ai cI (aY 3) 427 (vY 3), ai cI (aY 4) 7 (vY 4), ai cI (aY 5) 125 (vY 5), oX4 aW vW, ai cI (aW 8) 9 (vW 8), ai cI (aW 9) 9 (vW 9), ai cI (aW 10) 9 (vW 10)] → va_S A s.heap H locs → lv_has ls 4 [(0, .ref (aY 0)), (1, .int x1), (2, .int x2)] → W p l e rm_X3_measureBrother s m args below meth c H locs 0 0 Q (F0 m 2 ls []) := by
    intro out hKx
    have j25 : ∀ (rc : Ob → Int32 → Int32 → Option (Ob)), (∀ (vY : Ob) (x1 : Int32) (x2 : Int32), rc vY x1 x2 = some out → ∀ (H : Heap) (locs : List Loc) (ls : Array Slot), va_P G vwCl [oX3 aY aW aS vY, ai cI (aY 3) 427 (vY 3), ai cI (aY 4) 7 (vY 4), ai cI (aY 5) 125 (vY 5), oX4 aW vW, ai cI (aW 8) 9 (vW 8), ai cI (aW 9) 9 (vW 9), ai cI (aW 10) 9 (vW 10)] H → va_D A [oX3 aY aW aS vY, ai cI (aY 3) 427 (vY 3), ai cI (aY 4) 7 (vY 4), ai cI (aY 5) 125 (vY 5), oX4 aW vW, ai cI (aW 8) 9 (vW 8), ai cI (aW 9) 9 (vW 9), ai cI (aW 10) 9 (vW 10)] → va_S A s.heap H locs → lv_has ls 4 [(0, .ref (aY 0)), (1, .int x1), (2, .int x2)] → W p l e rm_X3_measureBrother s m args below meth c H locs 0 0 Q (F0 m 2 ls [])) → ∀ (vY : Ob) (x1 : Int32) (x2 : Int32) (s1 : Int32) (s2 : Int32), m_X3_measureBrother_j25 vW rc vY x1 x2 s1 s2 = some out → ∀ (H : Heap) (locs : List Loc) (ls : Array Slot), va_P G vwCl [oX3 aY aW aS vY, ai cI (aY 3) 427 (vY 3), ai cI (aY 4) 7 (vY 4), ai cI (aY 5) 125 (vY 5), oX4 aW vW, ai cI (aW 8) 9 (vW 8), ai cI (aW 9) 9 (vW 9), ai cI (aW 10) 9 (vW 10)] H → va_D A [oX3 aY aW aS vY, ai cI (aY 3) 427 (vY 3), ai cI (aY 4) 7 (vY 4), ai cI (aY 5) 125 (vY 5), oX4 aW vW, ai cI (aW 8) 9 (vW 8), ai cI (aW 9) 9 (vW 9), ai cI (aW 10) 9 (vW 10)] → va_S A s.heap H locs → lv_has ls 4 [(0, .ref (aY 0)), (1, .int x1), (2, .int x2)] → W p l e rm_X3_measureBrother s m args below meth c H locs 0 0 Q (F0 m 25 ls [.int s2, .int s1, .ref (aY 4)]) := by
      intro rc hrc vY x1 x2 s1 s2 h H locs ls hP hD hS hl
      unfold m_X3_measureBrother_j25 at h
      obtain ⟨hg25, h⟩ := grd_some h
      refine va_iast (f := (vY 4)) hx hb hEN.1 hP hD hS 2 0 rfl rfl (inb_in hg25) dX3_measureBrother_25 (fun H locs hP hD hS => ?_)
      have hP : va_P G vwCl [oX3 aY aW aS vY, ai cI (aY 3) 427 (vY 3), ai cI (aY 4) 7 (upd (vY 4) (Int32.toNatClampNeg s1) s2), ai cI (aY 5) 125 (vY 5), oX4 aW vW, ai cI (aW 8) 9 (vW 8), ai cI (aW 9) 9 (vW 9), ai cI (aW 10) 9 (vW 10)] H := hP
      have hD : va_D A [oX3 aY aW aS vY, ai cI (aY 3) 427 (vY 3), ai cI (aY 4) 7 (upd (vY 4) (Int32.toNatClampNeg s1) s2), ai cI (aY 5) 125 (vY 5), oX4 aW vW, ai cI (aW 8) 9 (vW 8), ai cI (aW 9) 9 (vW 9), ai cI (aW 10) 9 (vW 10)] := hD
      refine lv_iinc (v := (x2 + (1 : Int32))) (lv' := [(2, .int (x2 + (1 : Int32))), (0, .ref (aY 0)), (1, .int x1)]) hx hb dX3_measureBrother_26 hl (k := 2) rfl (congrArg (fun z => x2 + z) k_iconst_1) (by decide) rfl (fun ls hl => ?_)
      refine lv_goto (tgt := 2) hx hb dX3_measureBrother_29 (by decide) ?_
      exact hrc (st vY 4 (Int32.toNatClampNeg s1) s2) x1 (x2 + (1 : Int32)) h _ _ _ hP hD hS (lv_sub hl [1, 2, 0] rfl)
    intro n
    induction n with
    | zero => intro vY x1 x2 h; exact nomatch (show (none : Option (Ob)) = some out from h)
    | succ n hrc =>
      intro vY x1 x2 h H locs ls hP hD hS hl
      have h : m_X3_measureBrother_L2B vW (m_X3_measureBrother_L2 vW n) vY x1 x2 = some out := h
      generalize m_X3_measureBrother_L2 vW n = rc at h hrc
      unfold m_X3_measureBrother_L2B at h
      refine lv_iload_n hx hb dX3_measureBrother_2 rfl (lv_at hl 2 rfl) ?_
      refine lv_bipush (v := (7 : Int32)) hx hb dX3_measureBrother_3 k_bipush_7 ?_
      refine lv_icmp_ge (tgt := 32) hx hb dX3_measureBrother_5 (by decide) (fun c5 => ?_) (fun c5 => ?_)
      · have h := (if_pos c5).symm.trans h
        exact hKx _ (Option.some.inj h).symm _ _ _ hP hD hS (lv_sub hl [0] rfl)
      · have h := (if_neg c5).symm.trans h
        refine lv_aload_n hx hb dX3_measureBrother_8 rfl (lv_at hl 0 rfl) ?_
        refine va_get (D := G) (ci := 3) (v := .ref (aY 4)) (C := RX3) (T := TX3) (N := 14) hx hb hts fi_X3_measureBrother_X3 hown hEN.1 hP 0 rfl rfl 3 (by decide) (hts (.fieldLink RX3 15 "HourWell$Ways" "brotherHours" "[I") (List.mem_of_getElem? (i := 1) rfl)) (fun _ h9 => h9) rfl dX3_measureBrother_9 ?_
        refine lv_iload_n hx hb dX3_measureBrother_12 rfl (lv_at hl 2 rfl) ?_
        refine lv_iload_n hx hb dX3_measureBrother_13 rfl (lv_at hl 2 rfl) ?_
        refine lv_iload_n hx hb dX3_measureBrother_14 rfl (lv_at hl 1 rfl) ?_
        refine lv_icmp_ne (tgt := 22) hx hb dX3_measureBrother_15 (by decide) (fun c15 => ?_) (fun c15 => ?_)
        · have h := (if_neg c15).symm.trans h
          refine lv_sipush (v := (1000 : Int32)) hx hb dX3_measureBrother_22 k_sipush_1000 ?_
          exact j25 rc hrc vY x1 x2 x2 (1000 : Int32) h _ _ _ hP hD hS (lv_sub hl [0, 1, 2] rfl)
        · have h := (if_pos c15).symm.trans h
          refine lv_iconst (v := (0 : Int32)) hx hb dX3_measureBrother_18 k_iconst_0 ?_
          refine lv_goto (tgt := 25) hx hb dX3_measureBrother_19 (by decide) ?_
          exact j25 rc hrc vY x1 x2 x2 (0 : Int32) h _ _ _ hP hD hS (lv_sub hl [0, 1, 2] rfl)
  have L42 : ∀ (out : Ob × Int32), (∀ ex : Ob × Int32, out = ex → ∀ (H : Heap) (locs : List Loc) (ls : Array Slot), va_P G vwCl [oX3 aY aW aS ex.1, ai cI (aY 3) 427 (ex.1 3), ai cI (aY 4) 7 (ex.1 4), ai cI (aY 5) 125 (ex.1 5), oX4 aW vW, ai cI (aW 8) 9 (vW 8), ai cI (aW 9) 9 (vW 9), ai cI (aW 10) 9 (vW 10)] H → va_D A [oX3 aY aW aS ex.1, ai cI (aY 3) 427 (ex.1 3), ai cI (aY 4) 7 (ex.1 4), ai cI (aY 5) 125 (ex.1 5), oX4 aW vW, ai cI (aW 8) 9 (vW 8), ai cI (aW 9) 9 (vW 9), ai cI (aW 10) 9 (vW 10)] → va_S A s.heap H locs → lv_has ls 4 [(0, .ref (aY 0)), (2, .int ex.2)] → W p l e rm_X3_measureBrother s m args below meth c H locs 0 0 Q (F0 m 101 ls [])) → ∀ (n : Nat) (vY : Ob) (x2 : Int32) (x3 : Int32), m_X3_measureBrother_L42 vW n vY x2 x3 = some out → ∀ (H : Heap) (locs : List Loc) (ls : Array Slot), va_P G vwCl [oX3 aY aW aS vY, ai cI (aY 3) 427 (vY 3), ai cI (aY 4) 7 (vY 4), ai cI (aY 5) 125 (vY 5), oX4 aW vW, ai cI (aW 8) 9 (vW 8), ai cI (aW 9) 9 (vW 9), ai cI (aW 10) 9 (vW 10)] H → va_D A [oX3 aY aW aS vY, ai cI (aY 3) 427 (vY 3), ai cI (aY 4) 7 (vY 4), ai cI (aY 5) 125 (vY 5), oX4 aW vW, ai cI (aW 8) 9 (vW 8), ai cI (aW 9) 9 (vW 9), ai cI (aW 10) 9 (vW 10)] → va_S A s.heap H locs → lv_has ls 4 [(0, .ref (aY 0)), (2, .int x2), (3, .int x3)] → W p l e rm_X3_measureBrother s m args below meth c H locs 0 0 Q (F0 m 42 ls []) := by
    intro out hKx
    intro n
    induction n with
    | zero => intro vY x2 x3 h; exact nomatch (show (none : Option (Ob × Int32)) = some out from h)
    | succ n hrc =>
      intro vY x2 x3 h H locs ls hP hD hS hl
      have h : m_X3_measureBrother_L42B vW (m_X3_measureBrother_L42 vW n) vY x2 x3 = some out := h
      generalize m_X3_measureBrother_L42 vW n = rc at h hrc
      unfold m_X3_measureBrother_L42B at h
      refine lv_iload_n hx hb dX3_measureBrother_42 rfl (lv_at hl 2 rfl) ?_
      refine lv_aload_n hx hb dX3_measureBrother_43 rfl (lv_at hl 0 rfl) ?_
      refine va_get (D := G) (ci := 3) (v := .ref (aW 0)) (C := RX3) (T := TX3) (N := 14) hx hb hts fi_X3_measureBrother_X3 hown hEN.1 hP 0 rfl rfl 0 (by decide) (hts (.fieldLink RX3 21 "HourWell$Ways" "world" "LHourWell$World;") (List.mem_of_getElem? (i := 2) rfl)) (fun _ h9 => h9) rfl dX3_measureBrother_44 ?_
      refine va_get (D := G) (ci := 4) (v := .int (vW 0 1)) (C := RX4) (T := TX4) (N := 13) hx hb hts fi_X3_measureBrother_X4 hown hEN.1 hP 4 rfl rfl 1 (by decide) (hts (.fieldLink RX3 104 "HourWell$World" "roads" "I") (List.mem_of_getElem? (i := 3) rfl)) (fun _ h9 => h9) rfl dX3_measureBrother_47 ?_
      refine lv_icmp_ge (tgt := 101) hx hb dX3_measureBrother_50 (by decide) (fun c50 => ?_) (fun c50 => ?_)
      · have h := (if_pos c50).symm.trans h
        exact hKx _ (Option.some.inj h).symm _ _ _ hP hD hS (lv_sub hl [0, 1] rfl)
      · have h := (if_neg c50).symm.trans h
        refine lv_aload_n hx hb dX3_measureBrother_53 rfl (lv_at hl 0 rfl) ?_
        refine lv_iload_n hx hb dX3_measureBrother_54 rfl (lv_at hl 2 rfl) ?_
        refine lv_aload_n hx hb dX3_measureBrother_55 rfl (lv_at hl 0 rfl) ?_
        refine va_get (D := G) (ci := 3) (v := .ref (aW 0)) (C := RX3) (T := TX3) (N := 14) hx hb hts fi_X3_measureBrother_X3 hown hEN.1 hP 0 rfl rfl 0 (by decide) (hts (.fieldLink RX3 21 "HourWell$Ways" "world" "LHourWell$World;") (List.mem_of_getElem? (i := 2) rfl)) (fun _ h9 => h9) rfl dX3_measureBrother_56 ?_
        refine lv_iload_n hx hb dX3_measureBrother_59 rfl (lv_at hl 2 rfl) ?_
        obtain ⟨o60, ho60, h⟩ := bnd_some h
        refine call_V0 (As := [.int x3]) (rest := [.int x3, .ref (aY 0)]) ⟨hx, hb, hml, hown, hts⟩ (c_X4_roadStart l G cI cZ aW vW x3 o60 ho60) (cwV 1 hts gX3_measureBrother_X4_roadStart rfl rfl rfl hdV_X4_roadStart ⟨Nat.le_of_ble_eq_true rfl, Nat.le_of_ble_eq_true rfl⟩) hEN hA hP hD hS [4, 5] rfl (by decide) 4 rfl rfl rfl hl.1 rfl (Nat.le_of_ble_eq_true rfl) dX3_measureBrother_60 ⟨Nat.le_of_ble_eq_true rfl, Nat.le_of_ble_eq_true rfl⟩ (fun H locs hP hS => ?_)
        refine lv_aload_n hx hb dX3_measureBrother_63 rfl (lv_at hl 0 rfl) ?_
        refine va_get (D := G) (ci := 3) (v := .ref (aW 0)) (C := RX3) (T := TX3) (N := 14) hx hb hts fi_X3_measureBrother_X3 hown hEN.1 hP 0 rfl rfl 0 (by decide) (hts (.fieldLink RX3 21 "HourWell$Ways" "world" "LHourWell$World;") (List.mem_of_getElem? (i := 2) rfl)) (fun _ h9 => h9) rfl dX3_measureBrother_64 ?_
        refine lv_iload_n hx hb dX3_measureBrother_67 rfl (lv_at hl 2 rfl) ?_
        obtain ⟨o68, ho68, h⟩ := bnd_some h
        refine call_V0 (As := [.int x3]) (rest := [.int o60, .int x3, .ref (aY 0)]) ⟨hx, hb, hml, hown, hts⟩ (c_X4_roadEnd l G cI cZ aW vW x3 o68 ho68) (cwV 1 hts gX3_measureBrother_X4_roadEnd rfl rfl rfl hdV_X4_roadEnd ⟨Nat.le_of_ble_eq_true rfl, Nat.le_of_ble_eq_true rfl⟩) hEN hA hP hD hS [4, 6] rfl (by decide) 4 rfl rfl rfl hl.1 rfl (Nat.le_of_ble_eq_true rfl) dX3_measureBrother_68 ⟨Nat.le_of_ble_eq_true rfl, Nat.le_of_ble_eq_true rfl⟩ (fun H locs hP hS => ?_)
        obtain ⟨o71, ho71, h⟩ := bnd_some h
        refine call_VJ (wr := [ai cI (aW 8) 9 (vW 8), ai cI (aW 9) 9 (vW 9)]) (As := [.int x3, .int o60, .int o68]) (rest := []) ⟨hx, hb, hml, hown, hts⟩ (c_X3_shortenBrother l G cI cZ aY aW aS vY vW x3 o60 o68 o71 ho71) (cwV 3 hts gX3_measureBrother_X3_shortenBrother rfl rfl rfl hdV_X3_shortenBrother ⟨Nat.le_of_ble_eq_true rfl, Nat.le_of_ble_eq_true rfl⟩) hEN hA hP hD hS [0, 1, 2, 3, 4, 7] [5, 6] rfl (by decide) rfl (by decide) (by decide) 0 rfl rfl rfl hl.1 rfl (Nat.le_of_ble_eq_true rfl) dX3_measureBrother_71 ⟨Nat.le_of_ble_eq_true rfl, Nat.le_of_ble_eq_true rfl⟩ (fun H locs hP hD hS => ?_)
        have hP : va_P G vwCl [ai cI (aW 8) 9 (vW 8), ai cI (aW 9) 9 (vW 9), oX3 aY aW aS o71, ai cI (aY 3) 427 (o71 3), ai cI (aY 4) 7 (o71 4), ai cI (aY 5) 125 (o71 5), oX4 aW vW, ai cI (aW 10) 9 (vW 10)] H := hP
        have hD : va_D A [ai cI (aW 8) 9 (vW 8), ai cI (aW 9) 9 (vW 9), oX3 aY aW aS o71, ai cI (aY 3) 427 (o71 3), ai cI (aY 4) 7 (o71 4), ai cI (aY 5) 125 (o71 5), oX4 aW vW, ai cI (aW 10) 9 (vW 10)] := hD
        refine lv_aload_n hx hb dX3_measureBrother_74 rfl (lv_at hl 0 rfl) ?_
        refine lv_iload_n hx hb dX3_measureBrother_75 rfl (lv_at hl 2 rfl) ?_
        refine lv_aload_n hx hb dX3_measureBrother_76 rfl (lv_at hl 0 rfl) ?_
        refine va_get (D := G) (ci := 3) (v := .ref (aW 0)) (C := RX3) (T := TX3) (N := 14) hx hb hts fi_X3_measureBrother_X3 hown hEN.1 hP 2 rfl rfl 0 (by decide) (hts (.fieldLink RX3 21 "HourWell$Ways" "world" "LHourWell$World;") (List.mem_of_getElem? (i := 2) rfl)) (fun _ h9 => h9) rfl dX3_measureBrother_77 ?_
        refine lv_iload_n hx hb dX3_measureBrother_80 rfl (lv_at hl 2 rfl) ?_
        obtain ⟨o81, ho81, h⟩ := bnd_some h
        refine call_V0 (As := [.int x3]) (rest := [.int x3, .ref (aY 0)]) ⟨hx, hb, hml, hown, hts⟩ (c_X4_roadEnd l G cI cZ aW vW x3 o81 ho81) (cwV 1 hts gX3_measureBrother_X4_roadEnd rfl rfl rfl hdV_X4_roadEnd ⟨Nat.le_of_ble_eq_true rfl, Nat.le_of_ble_eq_true rfl⟩) hEN hA hP hD hS [6, 1] rfl (by decide) 6 rfl rfl rfl hl.1 rfl (Nat.le_of_ble_eq_true rfl) dX3_measureBrother_81 ⟨Nat.le_of_ble_eq_true rfl, Nat.le_of_ble_eq_true rfl⟩ (fun H locs hP hS => ?_)
        refine lv_aload_n hx hb dX3_measureBrother_84 rfl (lv_at hl 0 rfl) ?_
        refine va_get (D := G) (ci := 3) (v := .ref (aW 0)) (C := RX3) (T := TX3) (N := 14) hx hb hts fi_X3_measureBrother_X3 hown hEN.1 hP 2 rfl rfl 0 (by decide) (hts (.fieldLink RX3 21 "HourWell$Ways" "world" "LHourWell$World;") (List.mem_of_getElem? (i := 2) rfl)) (fun _ h9 => h9) rfl dX3_measureBrother_85 ?_
        refine lv_iload_n hx hb dX3_measureBrother_88 rfl (lv_at hl 2 rfl) ?_
        obtain ⟨o89, ho89, h⟩ := bnd_some h
        refine call_V0 (As := [.int x3]) (rest := [.int o81, .int x3, .ref (aY 0)]) ⟨hx, hb, hml, hown, hts⟩ (c_X4_roadStart l G cI cZ aW vW x3 o89 ho89) (cwV 1 hts gX3_measureBrother_X4_roadStart rfl rfl rfl hdV_X4_roadStart ⟨Nat.le_of_ble_eq_true rfl, Nat.le_of_ble_eq_true rfl⟩) hEN hA hP hD hS [6, 0] rfl (by decide) 6 rfl rfl rfl hl.1 rfl (Nat.le_of_ble_eq_true rfl) dX3_measureBrother_89 ⟨Nat.le_of_ble_eq_true rfl, Nat.le_of_ble_eq_true rfl⟩ (fun H locs hP hS => ?_)
        obtain ⟨o92, ho92, h⟩ := bnd_some h
        refine call_VJ (wr := [ai cI (aW 8) 9 (vW 8), ai cI (aW 9) 9 (vW 9)]) (As := [.int x3, .int o81, .int o89]) (rest := []) ⟨hx, hb, hml, hown, hts⟩ (c_X3_shortenBrother l G cI cZ aY aW aS o71 vW x3 o81 o89 o92 ho92) (cwV 3 hts gX3_measureBrother_X3_shortenBrother rfl rfl rfl hdV_X3_shortenBrother ⟨Nat.le_of_ble_eq_true rfl, Nat.le_of_ble_eq_true rfl⟩) hEN hA hP hD hS [2, 3, 4, 5, 6, 7] [0, 1] rfl (by decide) rfl (by decide) (by decide) 2 rfl rfl rfl hl.1 rfl (Nat.le_of_ble_eq_true rfl) dX3_measureBrother_92 ⟨Nat.le_of_ble_eq_true rfl, Nat.le_of_ble_eq_true rfl⟩ (fun H locs hP hD hS => ?_)
        have hP : va_P G vwCl [ai cI (aW 8) 9 (vW 8), ai cI (aW 9) 9 (vW 9), oX3 aY aW aS o92, ai cI (aY 3) 427 (o92 3), ai cI (aY 4) 7 (o92 4), ai cI (aY 5) 125 (o92 5), oX4 aW vW, ai cI (aW 10) 9 (vW 10)] H := hP
        have hD : va_D A [ai cI (aW 8) 9 (vW 8), ai cI (aW 9) 9 (vW 9), oX3 aY aW aS o92, ai cI (aY 3) 427 (o92 3), ai cI (aY 4) 7 (o92 4), ai cI (aY 5) 125 (o92 5), oX4 aW vW, ai cI (aW 10) 9 (vW 10)] := hD
        refine lv_iinc (v := (x3 + (1 : Int32))) (lv' := [(3, .int (x3 + (1 : Int32))), (0, .ref (aY 0)), (2, .int x2)]) hx hb dX3_measureBrother_95 hl (k := 2) rfl (congrArg (fun z => x3 + z) k_iconst_1) (by decide) rfl (fun ls hl => ?_)
        refine lv_goto (tgt := 42) hx hb dX3_measureBrother_98 (by decide) ?_
        exact hrc o92 x2 (x3 + (1 : Int32)) h _ _ _ (hP.sub [2, 3, 4, 5, 6, 0, 1, 7] rfl) (hD.sub [2, 3, 4, 5, 6, 0, 1, 7] (by decide) rfl) hS (lv_sub hl [1, 2, 0] rfl)
  have L34 : ∀ (out : Ob), (∀ ex : Ob, out = ex → ∀ (H : Heap) (locs : List Loc) (ls : Array Slot), va_P G vwCl [oX3 aY aW aS ex, ai cI (aY 3) 427 (ex 3), ai cI (aY 4) 7 (ex 4), ai cI (aY 5) 125 (ex 5), oX4 aW vW, ai cI (aW 8) 9 (vW 8), ai cI (aW 9) 9 (vW 9), ai cI (aW 10) 9 (vW 10)] H → va_D A [oX3 aY aW aS ex, ai cI (aY 3) 427 (ex 3), ai cI (aY 4) 7 (ex 4), ai cI (aY 5) 125 (ex 5), oX4 aW vW, ai cI (aW 8) 9 (vW 8), ai cI (aW 9) 9 (vW 9), ai cI (aW 10) 9 (vW 10)] → va_S A s.heap H locs → lv_has ls 4 [] → W p l e rm_X3_measureBrother s m args below meth c H locs 0 0 Q (F0 m 107 ls [])) → ∀ (n : Nat) (vY : Ob) (x2 : Int32), m_X3_measureBrother_L34 vW n vY x2 = some out → ∀ (H : Heap) (locs : List Loc) (ls : Array Slot), va_P G vwCl [oX3 aY aW aS vY, ai cI (aY 3) 427 (vY 3), ai cI (aY 4) 7 (vY 4), ai cI (aY 5) 125 (vY 5), oX4 aW vW, ai cI (aW 8) 9 (vW 8), ai cI (aW 9) 9 (vW 9), ai cI (aW 10) 9 (vW 10)] H → va_D A [oX3 aY aW aS vY, ai cI (aY 3) 427 (vY 3), ai cI (aY 4) 7 (vY 4), ai cI (aY 5) 125 (vY 5), oX4 aW vW, ai cI (aW 8) 9 (vW 8), ai cI (aW 9) 9 (vW 9), ai cI (aW 10) 9 (vW 10)] → va_S A s.heap H locs → lv_has ls 4 [(0, .ref (aY 0)), (2, .int x2)] → W p l e rm_X3_measureBrother s m args below meth c H locs 0 0 Q (F0 m 34 ls []) := by
    intro out hKx
    intro n
    induction n with
    | zero => intro vY x2 h; exact nomatch (show (none : Option (Ob)) = some out from h)
    | succ n hrc =>
      intro vY x2 h H locs ls hP hD hS hl
      have h : m_X3_measureBrother_L34B vW (m_X3_measureBrother_L34 vW n) vY x2 = some out := h
      generalize m_X3_measureBrother_L34 vW n = rc at h hrc
      unfold m_X3_measureBrother_L34B at h
      refine lv_iload_n hx hb dX3_measureBrother_34 rfl (lv_at hl 1 rfl) ?_
      refine lv_bipush (v := (7 : Int32)) hx hb dX3_measureBrother_35 k_bipush_7 ?_
      refine lv_icmp_ge (tgt := 107) hx hb dX3_measureBrother_37 (by decide) (fun c37 => ?_) (fun c37 => ?_)
      · have h := (if_pos c37).symm.trans h
        exact hKx _ (Option.some.inj h).symm _ _ _ hP hD hS (lv_sub hl [] rfl)
      · have h := (if_neg c37).symm.trans h
        refine lv_iconst (v := (0 : Int32)) hx hb dX3_measureBrother_40 k_iconst_0 ?_
        refine lv_istore_n (lv' := [(3, .int (0 : Int32)), (0, .ref (aY 0)), (2, .int x2)]) hx hb dX3_measureBrother_41 rfl hl (by decide) rfl (fun ls hl => ?_)
        obtain ⟨o42_2, ho42_2, h⟩ := bnd_some h
        refine L42 o42_2 (fun o42_2e er H locs ls hP hD hS hl => ?_) FU vY x2 (0 : Int32) ho42_2 _ _ _ hP hD hS (lv_sub hl [1, 2, 0] rfl)
        subst er
        refine lv_iinc (v := (o42_2.2 + (1 : Int32))) (lv' := [(2, .int (o42_2.2 + (1 : Int32))), (0, .ref (aY 0))]) hx hb dX3_measureBrother_101 hl (k := 1) rfl (congrArg (fun z => o42_2.2 + z) k_iconst_1) (by decide) rfl (fun ls hl => ?_)
        refine lv_goto (tgt := 34) hx hb dX3_measureBrother_104 (by decide) ?_
        exact hrc o42_2.1 (o42_2.2 + (1 : Int32)) h _ _ _ hP hD hS (lv_sub hl [1, 0] rfl)
  unfold m_X3_measureBrother at h
  refine lv_iconst (v := (0 : Int32)) hx hb dX3_measureBrother_0 k_iconst_0 ?_
  refine lv_istore_n (lv' := [(2, .int (0 : Int32)), (0, .ref (aY 0)), (1, .int x1)]) hx hb dX3_measureBrother_1 rfl hl (by decide) rfl (fun ls hl => ?_)
  obtain ⟨o2_1, ho2_1, h⟩ := bnd_some h
  refine L2 o2_1 (fun o2_1e er H locs ls hP hD hS hl => ?_) FU vY x1 (0 : Int32) ho2_1 _ _ _ hP hD hS (lv_sub hl [1, 2, 0] rfl)
  subst er
  refine lv_iconst (v := (1 : Int32)) hx hb dX3_measureBrother_32 k_iconst_1 ?_
  refine lv_istore_n (lv' := [(2, .int (1 : Int32)), (0, .ref (aY 0))]) hx hb dX3_measureBrother_33 rfl hl (by decide) rfl (fun ls hl => ?_)
  obtain ⟨o34_3, ho34_3, h⟩ := bnd_some h
  refine L34 o34_3 (fun o34_3e er H locs ls hP hD hS hl => ?_) FU o2_1 (1 : Int32) ho34_3 _ _ _ hP hD hS (lv_sub hl [1, 0] rfl)
  subst er
  have hres := Option.some.inj h
  subst hres
  exact hRet 107 _ _ _ hP hD hS dX3_measureBrother_107
abbrev rm_X3_placeOfRobbery : Room := { frames := 4, cells := 0, slots := 0, locals := 89 }
theorem fi_X3_placeOfRobbery_X3 : ∀ w ∈ wsX30, w ∈ wsX3_placeOfRobbery := fun _ h => List.mem_cons_of_mem _ (List.mem_append_left _ (List.mem_append_right _ h))
theorem fi_X3_placeOfRobbery_X4 : ∀ w ∈ wsX40, w ∈ wsX3_placeOfRobbery := fun _ h => List.mem_cons_of_mem _ (List.mem_append_right _ h)
theorem hdV_X3_placeOfRobbery : yX3_placeOfRobbery.cls = RX3 ∧ yX3_placeOfRobbery.cls ≠ "java/lang/invoke/MethodHandle" ∧ yX3_placeOfRobbery.cls ≠ "java/lang/invoke/VarHandle" ∧ (parseMethodDescriptor yX3_placeOfRobbery.desc).map (fun d => d.parameters.length) = some 1 := by decide +kernel
set_option maxRecDepth 100000 in
set_option maxHeartbeats 4000000 in
theorem c_X3_placeOfRobbery (l : Launch) (G : va_G) (cI cZ : ClassId) (aY : Nat → Nat) (aW : Nat → Nat) (aS : Nat → Nat) (vY : Ob) (vW : Ob) (x1 : Int32) (res : Int32 × Ob) (h : m_X3_placeOfRobbery vY vW x1 = some res) : Ct l yX3_placeOfRobbery wsX3_placeOfRobbery rm_X3_placeOfRobbery G cI cZ [.ref (aY 0), .int x1] [oX3 aY aW aS vY, ai cI (aY 3) 427 (vY 3), ai cI (aY 4) 7 (vY 4), ai cI (aY 5) 125 (vY 5), oX4 aW vW, ai cI (aW 5) 7 (vW 5), ai cI (aW 8) 9 (vW 8), ai cI (aW 9) 9 (vW 9), ai cI (aW 10) 9 (vW 10), ai cI (aW 12) 6 (vW 12)] (some (.int res.1)) [oX3 aY aW aS res.2, ai cI (aY 3) 427 (res.2 3), ai cI (aY 4) 7 (res.2 4), ai cI (aY 5) 125 (res.2 5), oX4 aW vW, ai cI (aW 5) 7 (vW 5), ai cI (aW 8) 9 (vW 8), ai cI (aW 9) 9 (vW 9), ai cI (aW 10) 9 (vW 10), ai cI (aW 12) 6 (vW 12)] := by
  refine Ct.of_i (maxL := 4) (by decide) rfl (Nat.le_of_ble_eq_true rfl) ?_
  intro p e s m below meth c args hx hb hml hown hts A hA hEN hP hD hS Q hRet ls hl
  have hown : s.vm.findClass RX3 = some m.cls := hown
  have hl : lv_has ls 4 [(0, .ref (aY 0)), (1, .int x1)] := hl
  have L11 : ∀ (out : (Int32 × Ob) ⊕ (Ob)), (∀ r : Int32 × Ob, out = Sum.inl r → r = res) → (∀ ex : Ob, out = Sum.inr ex → ∀ (H : Heap) (locs : List Loc) (ls : Array Slot), va_P G vwCl [oX3 aY aW aS ex, ai cI (aY 3) 427 (ex 3), ai cI (aY 4) 7 (ex 4), ai cI (aY 5) 125 (ex 5), oX4 aW vW, ai cI (aW 5) 7 (vW 5), ai cI (aW 8) 9 (vW 8), ai cI (aW 9) 9 (vW 9), ai cI (aW 10) 9 (vW 10), ai cI (aW 12) 6 (vW 12)] H → va_D A [oX3 aY aW aS ex, ai cI (aY 3) 427 (ex 3), ai cI (aY 4) 7 (ex 4), ai cI (aY 5) 125 (ex 5), oX4 aW vW, ai cI (aW 5) 7 (vW 5), ai cI (aW 8) 9 (vW 8), ai cI (aW 9) 9 (vW 9), ai cI (aW 10) 9 (vW 10), ai cI (aW 12) 6 (vW 12)] → va_S A s.heap H locs → lv_has ls 4 [] → W p l e rm_X3_placeOfRobbery s m args below meth c H locs 0 0 Q (F0 m 89 ls [])) → ∀ (n : Nat) (vY : Ob) (x2 : Int32), m_X3_placeOfRobbery_L11 vW n vY x2 = some out → ∀ (H : Heap) (locs : List Loc) (ls : Array Slot), va_P G vwCl [oX3 aY aW aS vY, ai cI (aY 3) 427 (vY 3), ai cI (aY 4) 7 (vY 4), ai cI (aY 5) 125 (vY 5), oX4 aW vW, ai cI (aW 5) 7 (vW 5), ai cI (aW 8) 9 (vW 8), ai cI (aW 9) 9 (vW 9), ai cI (aW 10) 9 (vW 10), ai cI (aW 12) 6 (vW 12)] H → va_D A [oX3 aY aW aS vY, ai cI (aY 3) 427 (vY 3), ai cI (aY 4) 7 (vY 4), ai cI (aY 5) 125 (vY 5), oX4 aW vW, ai cI (aW 5) 7 (vW 5), ai cI (aW 8) 9 (vW 8), ai cI (aW 9) 9 (vW 9), ai cI (aW 10) 9 (vW 10), ai cI (aW 12) 6 (vW 12)] → va_S A s.heap H locs → lv_has ls 4 [(0, .ref (aY 0)), (2, .int x2)] → W p l e rm_X3_placeOfRobbery s m args below meth c H locs 0 0 Q (F0 m 11 ls []) := by
    intro out hKr hKx
    have j83 : ∀ (rc : Ob → Int32 → Option ((Int32 × Ob) ⊕ (Ob))), (∀ (vY : Ob) (x2 : Int32), rc vY x2 = some out → ∀ (H : Heap) (locs : List Loc) (ls : Array Slot), va_P G vwCl [oX3 aY aW aS vY, ai cI (aY 3) 427 (vY 3), ai cI (aY 4) 7 (vY 4), ai cI (aY 5) 125 (vY 5), oX4 aW vW, ai cI (aW 5) 7 (vW 5), ai cI (aW 8) 9 (vW 8), ai cI (aW 9) 9 (vW 9), ai cI (aW 10) 9 (vW 10), ai cI (aW 12) 6 (vW 12)] H → va_D A [oX3 aY aW aS vY, ai cI (aY 3) 427 (vY 3), ai cI (aY 4) 7 (vY 4), ai cI (aY 5) 125 (vY 5), oX4 aW vW, ai cI (aW 5) 7 (vW 5), ai cI (aW 8) 9 (vW 8), ai cI (aW 9) 9 (vW 9), ai cI (aW 10) 9 (vW 10), ai cI (aW 12) 6 (vW 12)] → va_S A s.heap H locs → lv_has ls 4 [(0, .ref (aY 0)), (2, .int x2)] → W p l e rm_X3_placeOfRobbery s m args below meth c H locs 0 0 Q (F0 m 11 ls [])) → ∀ (vY : Ob) (x2 : Int32), m_X3_placeOfRobbery_j83 vW rc vY x2 = some out → ∀ (H : Heap) (locs : List Loc) (ls : Array Slot), va_P G vwCl [oX3 aY aW aS vY, ai cI (aY 3) 427 (vY 3), ai cI (aY 4) 7 (vY 4), ai cI (aY 5) 125 (vY 5), oX4 aW vW, ai cI (aW 5) 7 (vW 5), ai cI (aW 8) 9 (vW 8), ai cI (aW 9) 9 (vW 9), ai cI (aW 10) 9 (vW 10), ai cI (aW 12) 6 (vW 12)] H → va_D A [oX3 aY aW aS vY, ai cI (aY 3) 427 (vY 3), ai cI (aY 4) 7 (vY 4), ai cI (aY 5) 125 (vY 5), oX4 aW vW, ai cI (aW 5) 7 (vW 5), ai cI (aW 8) 9 (vW 8), ai cI (aW 9) 9 (vW 9), ai cI (aW 10) 9 (vW 10), ai cI (aW 12) 6 (vW 12)] → va_S A s.heap H locs → lv_has ls 4 [(0, .ref (aY 0)), (2, .int x2)] → W p l e rm_X3_placeOfRobbery s m args below meth c H locs 0 0 Q (F0 m 83 ls []) := by
      intro rc hrc vY x2 h H locs ls hP hD hS hl
      unfold m_X3_placeOfRobbery_j83 at h
      refine lv_iinc (v := (x2 + (1 : Int32))) (lv' := [(2, .int (x2 + (1 : Int32))), (0, .ref (aY 0))]) hx hb dX3_placeOfRobbery_83 hl (k := 1) rfl (congrArg (fun z => x2 + z) k_iconst_1) (by decide) rfl (fun ls hl => ?_)
      refine lv_goto (tgt := 11) hx hb dX3_placeOfRobbery_86 (by decide) ?_
      exact hrc vY (x2 + (1 : Int32)) h _ _ _ hP hD hS (lv_sub hl [1, 0] rfl)
    intro n
    induction n with
    | zero => intro vY x2 h; exact nomatch (show (none : Option ((Int32 × Ob) ⊕ (Ob))) = some out from h)
    | succ n hrc =>
      intro vY x2 h H locs ls hP hD hS hl
      have h : m_X3_placeOfRobbery_L11B vW (m_X3_placeOfRobbery_L11 vW n) vY x2 = some out := h
      generalize m_X3_placeOfRobbery_L11 vW n = rc at h hrc
      unfold m_X3_placeOfRobbery_L11B at h
      refine lv_iload_n hx hb dX3_placeOfRobbery_11 rfl (lv_at hl 1 rfl) ?_
      refine lv_aload_n hx hb dX3_placeOfRobbery_12 rfl (lv_at hl 0 rfl) ?_
      refine va_get (D := G) (ci := 3) (v := .int (vY 0 5)) (C := RX3) (T := TX3) (N := 14) hx hb hts fi_X3_placeOfRobbery_X3 hown hEN.1 hP 0 rfl rfl 5 (by decide) (hts (.fieldLink RX3 57 "HourWell$Ways" "stepCount" "I") (List.mem_of_getElem? (i := 1) rfl)) (fun _ h9 => h9) rfl dX3_placeOfRobbery_13 ?_
      refine lv_icmp_ge (tgt := 89) hx hb dX3_placeOfRobbery_16 (by decide) (fun c16 => ?_) (fun c16 => ?_)
      · have h := (if_pos c16).symm.trans h
        exact hKx _ (Option.some.inj h).symm _ _ _ hP hD hS (lv_sub hl [] rfl)
      · have h := (if_neg c16).symm.trans h
        refine lv_iload_n hx hb dX3_placeOfRobbery_19 rfl (lv_at hl 1 rfl) ?_
        refine lv_bipush (v := (125 : Int32)) hx hb dX3_placeOfRobbery_20 k_bipush_125 ?_
        refine lv_icmp_ge (tgt := 89) hx hb dX3_placeOfRobbery_22 (by decide) (fun c22 => ?_) (fun c22 => ?_)
        · have h := (if_pos c22).symm.trans h
          exact hKx _ (Option.some.inj h).symm _ _ _ hP hD hS (lv_sub hl [] rfl)
        · have h := (if_neg c22).symm.trans h
          refine lv_aload_n hx hb dX3_placeOfRobbery_25 rfl (lv_at hl 0 rfl) ?_
          refine va_get (D := G) (ci := 3) (v := .int (vY 0 13)) (C := RX3) (T := TX3) (N := 14) hx hb hts fi_X3_placeOfRobbery_X3 hown hEN.1 hP 0 rfl rfl 13 (by decide) (hts (.fieldLink RX3 85 "HourWell$Ways" "things" "I") (List.mem_of_getElem? (i := 2) rfl)) (fun _ h9 => h9) rfl dX3_placeOfRobbery_26 ?_
          refine lv_aload_n hx hb dX3_placeOfRobbery_29 rfl (lv_at hl 0 rfl) ?_
          refine va_get (D := G) (ci := 3) (v := .int (vY 0 7)) (C := RX3) (T := TX3) (N := 14) hx hb hts fi_X3_placeOfRobbery_X3 hown hEN.1 hP 0 rfl rfl 7 (by decide) (hts (.fieldLink RX3 29 "HourWell$Ways" "wayThing" "I") (List.mem_of_getElem? (i := 3) rfl)) (fun _ h9 => h9) rfl dX3_placeOfRobbery_30 ?_
          obtain ⟨o33, ho33, h⟩ := bnd_some h
          refine call_SN0 (As := [.int (vY 0 13), .int (vY 0 7)]) (rest := []) ⟨hx, hb, hml, hown, hts⟩ (c_X5_hasThing l G cI cZ  (vY 0 13) (vY 0 7) o33 ho33) ⟨va_cnB 2 hts gX3_placeOfRobbery_X5_hasThing_n86 rfl rfl rfl (hEN.2.1 _ (List.mem_of_getElem? (i := 8) rfl)) (hts (.initialized RX5) (List.mem_of_getElem? (i := 56) rfl)) hdS_X5_hasThing ⟨Nat.le_of_ble_eq_true rfl, Nat.le_of_ble_eq_true rfl⟩, hts (.static yX5_hasThing) (List.mem_of_getElem? (i := 55) rfl), trivial⟩ hEN hA hP hD hS [] rfl (by decide) rfl hl.1 rfl (Nat.le_of_ble_eq_true rfl) dX3_placeOfRobbery_33 ⟨Nat.le_of_ble_eq_true rfl, Nat.le_of_ble_eq_true rfl⟩ (fun H locs hP hS => ?_)
          refine lv_istore_n (lv' := [(3, .int o33), (0, .ref (aY 0)), (2, .int x2)]) hx hb dX3_placeOfRobbery_36 rfl hl (by decide) rfl (fun ls hl => ?_)
          refine lv_aload_n hx hb dX3_placeOfRobbery_37 rfl (lv_at hl 1 rfl) ?_
          refine lv_aload_n hx hb dX3_placeOfRobbery_38 rfl (lv_at hl 1 rfl) ?_
          refine va_get (D := G) (ci := 3) (v := .ref (aY 5)) (C := RX3) (T := TX3) (N := 14) hx hb hts fi_X3_placeOfRobbery_X3 hown hEN.1 hP 0 rfl rfl 4 (by decide) (hts (.fieldLink RX3 18 "HourWell$Ways" "steps" "[I") (List.mem_of_getElem? (i := 4) rfl)) (fun _ h9 => h9) rfl dX3_placeOfRobbery_39 ?_
          refine lv_iload_n hx hb dX3_placeOfRobbery_42 rfl (lv_at hl 2 rfl) ?_
          obtain ⟨hg43, h⟩ := grd_some h
          refine va_iald (f := (vY 5)) hx hb hEN.1 hP 3 0 rfl rfl (inb_in hg43) dX3_placeOfRobbery_43 ?_
          obtain ⟨o44, ho44, h⟩ := bnd_some h
          refine call_VJ (wr := []) (As := [.int ((vY 5) (Int32.toNatClampNeg x2))]) (rest := []) ⟨hx, hb, hml, hown, hts⟩ (c_X3_takeStep l G cI cZ aY aW aS vY vW ((vY 5) (Int32.toNatClampNeg x2)) o44 ho44) (cwV 1 hts gX3_placeOfRobbery_X3_takeStep rfl rfl rfl hdV_X3_takeStep ⟨Nat.le_of_ble_eq_true rfl, Nat.le_of_ble_eq_true rfl⟩) hEN hA hP hD hS [0, 1, 2, 3, 4, 5, 6, 7, 8, 9] [] rfl (by decide) rfl (by decide) (by decide) 0 rfl rfl rfl hl.1 rfl (Nat.le_of_ble_eq_true rfl) dX3_placeOfRobbery_44 ⟨Nat.le_of_ble_eq_true rfl, Nat.le_of_ble_eq_true rfl⟩ (fun H locs hP hD hS => ?_)
          have hP : va_P G vwCl [oX3 aY aW aS o44, ai cI (aY 3) 427 (o44 3), ai cI (aY 4) 7 (o44 4), ai cI (aY 5) 125 (o44 5), oX4 aW vW, ai cI (aW 5) 7 (vW 5), ai cI (aW 8) 9 (vW 8), ai cI (aW 9) 9 (vW 9), ai cI (aW 10) 9 (vW 10), ai cI (aW 12) 6 (vW 12)] H := hP
          have hD : va_D A [oX3 aY aW aS o44, ai cI (aY 3) 427 (o44 3), ai cI (aY 4) 7 (o44 4), ai cI (aY 5) 125 (o44 5), oX4 aW vW, ai cI (aW 5) 7 (vW 5), ai cI (aW 8) 9 (vW 8), ai cI (aW 9) 9 (vW 9), ai cI (aW 10) 9 (vW 10), ai cI (aW 12) 6 (vW 12)] := hD
          refine lv_aload_n hx hb dX3_placeOfRobbery_47 rfl (lv_at hl 1 rfl) ?_
          refine va_get (D := G) (ci := 3) (v := .ref (aY 5)) (C := RX3) (T := TX3) (N := 14) hx hb hts fi_X3_placeOfRobbery_X3 hown hEN.1 hP 0 rfl rfl 4 (by decide) (hts (.fieldLink RX3 18 "HourWell$Ways" "steps" "[I") (List.mem_of_getElem? (i := 4) rfl)) (fun _ h9 => h9) rfl dX3_placeOfRobbery_48 ?_
          refine lv_iload_n hx hb dX3_placeOfRobbery_51 rfl (lv_at hl 2 rfl) ?_
          obtain ⟨hg52, h⟩ := grd_some h
          refine va_iald (f := (o44 5)) hx hb hEN.1 hP 3 0 rfl rfl (inb_in hg52) dX3_placeOfRobbery_52 ?_
          obtain ⟨o53, ho53, h⟩ := bnd_some h
          refine call_S0 (As := [.int ((o44 5) (Int32.toNatClampNeg x2))]) (rest := []) ⟨hx, hb, hml, hown, hts⟩ (c_X3_isWalk l G cI cZ  ((o44 5) (Int32.toNatClampNeg x2)) o53 ho53) (va_cwS 1 hts gX3_placeOfRobbery_X3_isWalk rfl rfl rfl hdS_X3_isWalk ⟨Nat.le_of_ble_eq_true rfl, Nat.le_of_ble_eq_true rfl⟩) hEN hA hP hD hS [] rfl (by decide) rfl hl.1 rfl (Nat.le_of_ble_eq_true rfl) dX3_placeOfRobbery_53 ⟨Nat.le_of_ble_eq_true rfl, Nat.le_of_ble_eq_true rfl⟩ (fun H locs hP hS => ?_)
          refine lv_if_eq (tgt := 83) hx hb dX3_placeOfRobbery_56 (by decide) (fun c56 => ?_) (fun c56 => ?_)
          · have h := (if_pos c56).symm.trans h
            exact j83 rc hrc o44 x2 h _ _ _ hP hD hS (lv_sub hl [1, 2] rfl)
          · have h := (if_neg c56).symm.trans h
            refine lv_iload_n hx hb dX3_placeOfRobbery_59 rfl (lv_at hl 0 rfl) ?_
            refine lv_if_eq (tgt := 83) hx hb dX3_placeOfRobbery_60 (by decide) (fun c60 => ?_) (fun c60 => ?_)
            · have h := (if_pos c60).symm.trans h
              exact j83 rc hrc o44 x2 h _ _ _ hP hD hS (lv_sub hl [1, 2] rfl)
            · have h := (if_neg c60).symm.trans h
              refine lv_aload_n hx hb dX3_placeOfRobbery_63 rfl (lv_at hl 1 rfl) ?_
              refine lv_aload_n hx hb dX3_placeOfRobbery_64 rfl (lv_at hl 1 rfl) ?_
              refine va_get (D := G) (ci := 3) (v := .int (o44 0 11)) (C := RX3) (T := TX3) (N := 14) hx hb hts fi_X3_placeOfRobbery_X3 hown hEN.1 hP 0 rfl rfl 11 (by decide) (hts (.fieldLink RX3 93 "HourWell$Ways" "place" "I") (List.mem_of_getElem? (i := 5) rfl)) (fun _ h9 => h9) rfl dX3_placeOfRobbery_65 ?_
              obtain ⟨o68, ho68, h⟩ := bnd_some h
              refine call_V0 (As := [.int (o44 0 11)]) (rest := []) ⟨hx, hb, hml, hown, hts⟩ (c_X3_brotherHoursTo l G cI cZ aY aW aS o44 vW (o44 0 11) o68 ho68) (cwV 1 hts gX3_placeOfRobbery_X3_brotherHoursTo rfl rfl rfl hdV_X3_brotherHoursTo ⟨Nat.le_of_ble_eq_true rfl, Nat.le_of_ble_eq_true rfl⟩) hEN hA hP hD hS [0, 2, 4] rfl (by decide) 0 rfl rfl rfl hl.1 rfl (Nat.le_of_ble_eq_true rfl) dX3_placeOfRobbery_68 ⟨Nat.le_of_ble_eq_true rfl, Nat.le_of_ble_eq_true rfl⟩ (fun H locs hP hS => ?_)
              refine lv_aload_n hx hb dX3_placeOfRobbery_71 rfl (lv_at hl 1 rfl) ?_
              refine va_get (D := G) (ci := 3) (v := .int (o44 0 12)) (C := RX3) (T := TX3) (N := 14) hx hb hts fi_X3_placeOfRobbery_X3 hown hEN.1 hP 0 rfl rfl 12 (by decide) (hts (.fieldLink RX3 98 "HourWell$Ways" "gone" "I") (List.mem_of_getElem? (i := 6) rfl)) (fun _ h9 => h9) rfl dX3_placeOfRobbery_72 ?_
              refine lv_icmp_gt (tgt := 83) hx hb dX3_placeOfRobbery_75 (by decide) (fun c75 => ?_) (fun c75 => ?_)
              · have h := (if_pos c75).symm.trans h
                exact j83 rc hrc o44 x2 h _ _ _ hP hD hS (lv_sub hl [1, 2] rfl)
              · have h := (if_neg c75).symm.trans h
                refine lv_aload_n hx hb dX3_placeOfRobbery_78 rfl (lv_at hl 1 rfl) ?_
                refine va_get (D := G) (ci := 3) (v := .int (o44 0 11)) (C := RX3) (T := TX3) (N := 14) hx hb hts fi_X3_placeOfRobbery_X3 hown hEN.1 hP 0 rfl rfl 11 (by decide) (hts (.fieldLink RX3 93 "HourWell$Ways" "place" "I") (List.mem_of_getElem? (i := 5) rfl)) (fun _ h9 => h9) rfl dX3_placeOfRobbery_79 ?_
                have hres := hKr _ (Option.some.inj h).symm
                subst hres
                exact hRet 82 _ _ _ hP hD hS dX3_placeOfRobbery_82
  unfold m_X3_placeOfRobbery at h
  refine lv_aload_n hx hb dX3_placeOfRobbery_0 rfl (lv_at hl 0 rfl) ?_
  refine lv_iload_n hx hb dX3_placeOfRobbery_1 rfl (lv_at hl 1 rfl) ?_
  obtain ⟨o2, ho2, h⟩ := bnd_some h
  refine call_VJ (wr := [ai cI (aW 5) 7 (vW 5), ai cI (aW 12) 6 (vW 12)]) (As := [.int x1]) (rest := []) ⟨hx, hb, hml, hown, hts⟩ (c_X3_measureBrother l G cI cZ aY aW aS vY vW x1 o2 ho2) (cwV 1 hts gX3_placeOfRobbery_X3_measureBrother rfl rfl rfl hdV_X3_measureBrother ⟨Nat.le_of_ble_eq_true rfl, Nat.le_of_ble_eq_true rfl⟩) hEN hA hP hD hS [0, 1, 2, 3, 4, 6, 7, 8] [5, 9] rfl (by decide) rfl (by decide) (by decide) 0 rfl rfl rfl hl.1 rfl (Nat.le_of_ble_eq_true rfl) dX3_placeOfRobbery_2 ⟨Nat.le_of_ble_eq_true rfl, Nat.le_of_ble_eq_true rfl⟩ (fun H locs hP hD hS => ?_)
  have hP : va_P G vwCl [ai cI (aW 5) 7 (vW 5), ai cI (aW 12) 6 (vW 12), oX3 aY aW aS o2, ai cI (aY 3) 427 (o2 3), ai cI (aY 4) 7 (o2 4), ai cI (aY 5) 125 (o2 5), oX4 aW vW, ai cI (aW 8) 9 (vW 8), ai cI (aW 9) 9 (vW 9), ai cI (aW 10) 9 (vW 10)] H := hP
  have hD : va_D A [ai cI (aW 5) 7 (vW 5), ai cI (aW 12) 6 (vW 12), oX3 aY aW aS o2, ai cI (aY 3) 427 (o2 3), ai cI (aY 4) 7 (o2 4), ai cI (aY 5) 125 (o2 5), oX4 aW vW, ai cI (aW 8) 9 (vW 8), ai cI (aW 9) 9 (vW 9), ai cI (aW 10) 9 (vW 10)] := hD
  refine lv_aload_n hx hb dX3_placeOfRobbery_5 rfl (lv_at hl 0 rfl) ?_
  obtain ⟨o6, ho6, h⟩ := bnd_some h
  refine call_VJ (wr := [ai cI (aW 5) 7 (vW 5), ai cI (aW 12) 6 (vW 12), oX4 aW vW, ai cI (aW 8) 9 (vW 8), ai cI (aW 9) 9 (vW 9), ai cI (aW 10) 9 (vW 10)]) (As := []) (rest := []) ⟨hx, hb, hml, hown, hts⟩ (c_X3_standAtStart l G cI cZ aY aW aS o2 o6 ho6) (cwV 0 hts gX3_placeOfRobbery_X3_standAtStart rfl rfl rfl hdV_X3_standAtStart ⟨Nat.le_of_ble_eq_true rfl, Nat.le_of_ble_eq_true rfl⟩) hEN hA hP hD hS [2, 3, 4, 5] [0, 1, 6, 7, 8, 9] rfl (by decide) rfl (by decide) (by decide) 2 rfl rfl rfl hl.1 rfl (Nat.le_of_ble_eq_true rfl) dX3_placeOfRobbery_6 ⟨Nat.le_of_ble_eq_true rfl, Nat.le_of_ble_eq_true rfl⟩ (fun H locs hP hD hS => ?_)
  have hP : va_P G vwCl [ai cI (aW 5) 7 (vW 5), ai cI (aW 12) 6 (vW 12), oX4 aW vW, ai cI (aW 8) 9 (vW 8), ai cI (aW 9) 9 (vW 9), ai cI (aW 10) 9 (vW 10), oX3 aY aW aS o6, ai cI (aY 3) 427 (o6 3), ai cI (aY 4) 7 (o6 4), ai cI (aY 5) 125 (o6 5)] H := hP
  have hD : va_D A [ai cI (aW 5) 7 (vW 5), ai cI (aW 12) 6 (vW 12), oX4 aW vW, ai cI (aW 8) 9 (vW 8), ai cI (aW 9) 9 (vW 9), ai cI (aW 10) 9 (vW 10), oX3 aY aW aS o6, ai cI (aY 3) 427 (o6 3), ai cI (aY 4) 7 (o6 4), ai cI (aY 5) 125 (o6 5)] := hD
  refine lv_iconst (v := (0 : Int32)) hx hb dX3_placeOfRobbery_9 k_iconst_0 ?_
  refine lv_istore_n (lv' := [(2, .int (0 : Int32)), (0, .ref (aY 0)), (1, .int x1)]) hx hb dX3_placeOfRobbery_10 rfl hl (by decide) rfl (fun ls hl => ?_)
  obtain ⟨o11_1, ho11_1, h⟩ := bnd_some h
  refine L11 o11_1 (fun r er => ?_) (fun o11_1x er H locs ls hP hD hS hl => ?_) FU o6 (0 : Int32) ho11_1 _ _ _ (hP.sub [6, 7, 8, 9, 2, 0, 3, 4, 5, 1] rfl) (hD.sub [6, 7, 8, 9, 2, 0, 3, 4, 5, 1] (by decide) rfl) hS (lv_sub hl [1, 0] rfl)
  · subst er
    have h := (sm_l _ _ _).symm.trans h
    exact Option.some.inj h
  · subst er
    have h := (sm_r _ _ _).symm.trans h
    refine lv_bipush (v := (-9 : Int32)) hx hb dX3_placeOfRobbery_89 k_bipush_n9 ?_
    have hres := Option.some.inj h
    subst hres
    exact hRet 91 _ _ _ hP hD hS dX3_placeOfRobbery_91
abbrev rm_X3_usedSteps : Room := { frames := 0, cells := 0, slots := 0, locals := 0 }
theorem fi_X3_usedSteps_X3 : ∀ w ∈ wsX30, w ∈ wsX3_usedSteps := fun _ h => List.mem_cons_of_mem _ (List.mem_append_right _ h)
theorem hdV_X3_usedSteps : yX3_usedSteps.cls = RX3 ∧ yX3_usedSteps.cls ≠ "java/lang/invoke/MethodHandle" ∧ yX3_usedSteps.cls ≠ "java/lang/invoke/VarHandle" ∧ (parseMethodDescriptor yX3_usedSteps.desc).map (fun d => d.parameters.length) = some 0 := by decide +kernel
set_option maxRecDepth 100000 in
set_option maxHeartbeats 4000000 in
theorem c_X3_usedSteps (l : Launch) (G : va_G) (cI cZ : ClassId) (aY : Nat → Nat) (aW : Nat → Nat) (aS : Nat → Nat) (vY : Ob)  (res : Int32) (h : m_X3_usedSteps vY  = some res) : Ct l yX3_usedSteps wsX3_usedSteps rm_X3_usedSteps G cI cZ [.ref (aY 0)] [oX3 aY aW aS vY, ai cI (aY 5) 125 (vY 5)] (some (.int res)) [oX3 aY aW aS vY, ai cI (aY 5) 125 (vY 5)] := by
  refine Ct.of_i (maxL := 3) (by decide) rfl (Nat.le_of_ble_eq_true rfl) ?_
  intro p e s m below meth c args hx hb hml hown hts A hA hEN hP hD hS Q hRet ls hl
  have hown : s.vm.findClass RX3 = some m.cls := hown
  have hl : lv_has ls 3 [(0, .ref (aY 0))] := hl
  have L4 : ∀ (out : Int32), (∀ ex : Int32, out = ex → ∀ (H : Heap) (locs : List Loc) (ls : Array Slot), va_P G vwCl [oX3 aY aW aS vY, ai cI (aY 5) 125 (vY 5)] H → va_D A [oX3 aY aW aS vY, ai cI (aY 5) 125 (vY 5)] → va_S A s.heap H locs → lv_has ls 3 [(1, .int ex)] → W p l e rm_X3_usedSteps s m args below meth c H locs 0 0 Q (F0 m 35 ls [])) → ∀ (n : Nat) (x1 : Int32) (x2 : Int32), m_X3_usedSteps_L4 vY n x1 x2 = some out → ∀ (H : Heap) (locs : List Loc) (ls : Array Slot), va_P G vwCl [oX3 aY aW aS vY, ai cI (aY 5) 125 (vY 5)] H → va_D A [oX3 aY aW aS vY, ai cI (aY 5) 125 (vY 5)] → va_S A s.heap H locs → lv_has ls 3 [(0, .ref (aY 0)), (1, .int x1), (2, .int x2)] → W p l e rm_X3_usedSteps s m args below meth c H locs 0 0 Q (F0 m 4 ls []) := by
    intro out hKx
    intro n
    induction n with
    | zero => intro x1 x2 h; exact nomatch (show (none : Option (Int32)) = some out from h)
    | succ n hrc =>
      intro x1 x2 h H locs ls hP hD hS hl
      have h : m_X3_usedSteps_L4B vY (m_X3_usedSteps_L4 vY n) x1 x2 = some out := h
      generalize m_X3_usedSteps_L4 vY n = rc at h hrc
      unfold m_X3_usedSteps_L4B at h
      refine lv_iload_n hx hb dX3_usedSteps_4 rfl (lv_at hl 2 rfl) ?_
      refine lv_aload_n hx hb dX3_usedSteps_5 rfl (lv_at hl 0 rfl) ?_
      refine va_get (D := G) (ci := 3) (v := .int (vY 0 5)) (C := RX3) (T := TX3) (N := 14) hx hb hts fi_X3_usedSteps_X3 hown hEN.1 hP 0 rfl rfl 5 (by decide) (hts (.fieldLink RX3 57 "HourWell$Ways" "stepCount" "I") (List.mem_of_getElem? (i := 1) rfl)) (fun _ h9 => h9) rfl dX3_usedSteps_6 ?_
      refine lv_icmp_ge (tgt := 35) hx hb dX3_usedSteps_9 (by decide) (fun c9 => ?_) (fun c9 => ?_)
      · have h := (if_pos c9).symm.trans h
        exact hKx _ (Option.some.inj h).symm _ _ _ hP hD hS (lv_sub hl [1] rfl)
      · have h := (if_neg c9).symm.trans h
        refine lv_iload_n hx hb dX3_usedSteps_12 rfl (lv_at hl 2 rfl) ?_
        refine lv_bipush (v := (125 : Int32)) hx hb dX3_usedSteps_13 k_bipush_125 ?_
        refine lv_icmp_ge (tgt := 35) hx hb dX3_usedSteps_15 (by decide) (fun c15 => ?_) (fun c15 => ?_)
        · have h := (if_pos c15).symm.trans h
          exact hKx _ (Option.some.inj h).symm _ _ _ hP hD hS (lv_sub hl [1] rfl)
        · have h := (if_neg c15).symm.trans h
          refine lv_iload_n hx hb dX3_usedSteps_18 rfl (lv_at hl 1 rfl) ?_
          refine lv_iconst (v := (1 : Int32)) hx hb dX3_usedSteps_19 k_iconst_1 ?_
          refine lv_aload_n hx hb dX3_usedSteps_20 rfl (lv_at hl 0 rfl) ?_
          refine va_get (D := G) (ci := 3) (v := .ref (aY 5)) (C := RX3) (T := TX3) (N := 14) hx hb hts fi_X3_usedSteps_X3 hown hEN.1 hP 0 rfl rfl 4 (by decide) (hts (.fieldLink RX3 18 "HourWell$Ways" "steps" "[I") (List.mem_of_getElem? (i := 2) rfl)) (fun _ h9 => h9) rfl dX3_usedSteps_21 ?_
          refine lv_iload_n hx hb dX3_usedSteps_24 rfl (lv_at hl 2 rfl) ?_
          obtain ⟨hg25, h⟩ := grd_some h
          refine va_iald (f := (vY 5)) hx hb hEN.1 hP 1 0 rfl rfl (inb_in hg25) dX3_usedSteps_25 ?_
          refine lv_ishl hx hb dX3_usedSteps_26 ?_
          refine lv_ior hx hb dX3_usedSteps_27 ?_
          refine lv_istore_n (lv' := [(1, .int (x1 ||| ((1 : Int32) <<< (((vY 5) (Int32.toNatClampNeg x2)) &&& 31)))), (0, .ref (aY 0)), (2, .int x2)]) hx hb dX3_usedSteps_28 rfl hl (by decide) rfl (fun ls hl => ?_)
          refine lv_iinc (v := (x2 + (1 : Int32))) (lv' := [(2, .int (x2 + (1 : Int32))), (1, .int (x1 ||| ((1 : Int32) <<< (((vY 5) (Int32.toNatClampNeg x2)) &&& 31)))), (0, .ref (aY 0))]) hx hb dX3_usedSteps_29 hl (k := 2) rfl (congrArg (fun z => x2 + z) k_iconst_1) (by decide) rfl (fun ls hl => ?_)
          refine lv_goto (tgt := 4) hx hb dX3_usedSteps_32 (by decide) ?_
          exact hrc (x1 ||| ((1 : Int32) <<< (((vY 5) (Int32.toNatClampNeg x2)) &&& 31))) (x2 + (1 : Int32)) h _ _ _ hP hD hS (lv_sub hl [2, 1, 0] rfl)
  unfold m_X3_usedSteps at h
  refine lv_iconst (v := (0 : Int32)) hx hb dX3_usedSteps_0 k_iconst_0 ?_
  refine lv_istore_n (lv' := [(1, .int (0 : Int32)), (0, .ref (aY 0))]) hx hb dX3_usedSteps_1 rfl hl (by decide) rfl (fun ls hl => ?_)
  refine lv_iconst (v := (0 : Int32)) hx hb dX3_usedSteps_2 k_iconst_0 ?_
  refine lv_istore_n (lv' := [(2, .int (0 : Int32)), (1, .int (0 : Int32)), (0, .ref (aY 0))]) hx hb dX3_usedSteps_3 rfl hl (by decide) rfl (fun ls hl => ?_)
  obtain ⟨o4_1, ho4_1, h⟩ := bnd_some h
  refine L4 o4_1 (fun o4_1e er H locs ls hP hD hS hl => ?_) FU (0 : Int32) (0 : Int32) ho4_1 _ _ _ hP hD hS (lv_sub hl [2, 1, 0] rfl)
  subst er
  refine lv_iload_n hx hb dX3_usedSteps_35 rfl (lv_at hl 0 rfl) ?_
  have hres := Option.some.inj h
  subst hres
  exact hRet 36 _ _ _ hP hD hS dX3_usedSteps_36
abbrev rm_X3_neededRoads : Room := { frames := 5, cells := 0, slots := 0, locals := 122 }
theorem fi_X3_neededRoads_X3 : ∀ w ∈ wsX30, w ∈ wsX3_neededRoads := fun _ h => List.mem_cons_of_mem _ (List.mem_append_left _ (List.mem_append_left _ (List.mem_append_right _ h)))
theorem fi_X3_neededRoads_X4 : ∀ w ∈ wsX40, w ∈ wsX3_neededRoads := fun _ h => List.mem_cons_of_mem _ (List.mem_append_left _ (List.mem_append_right _ h))
theorem fi_X3_neededRoads_X2 : ∀ w ∈ wsX20, w ∈ wsX3_neededRoads := fun _ h => List.mem_cons_of_mem _ (List.mem_append_right _ h)
theorem hdV_X3_neededRoads : yX3_neededRoads.cls = RX3 ∧ yX3_neededRoads.cls ≠ "java/lang/invoke/MethodHandle" ∧ yX3_neededRoads.cls ≠ "java/lang/invoke/VarHandle" ∧ (parseMethodDescriptor yX3_neededRoads.desc).map (fun d => d.parameters.length) = some 0 := by decide +kernel
set_option maxRecDepth 100000 in
set_option maxHeartbeats 4000000 in
theorem c_X3_neededRoads (l : Launch) (G : va_G) (cI cZ : ClassId) (aY : Nat → Nat) (aW : Nat → Nat) (aS : Nat → Nat) (vY : Ob) (vW : Ob) (vS : Ob)  (res : Int32 × Ob) (h : m_X3_neededRoads vY vW vS  = some res) : Ct l yX3_neededRoads wsX3_neededRoads rm_X3_neededRoads G cI cZ [.ref (aY 0)] [oX3 aY aW aS vY, ai cI (aY 3) 427 (vY 3), ai cI (aY 4) 7 (vY 4), ai cI (aY 5) 125 (vY 5), oX4 aW vW, ai cI (aW 5) 7 (vW 5), ai cI (aW 6) 7 (vW 6), ai cI (aW 7) 7 (vW 7), ai cI (aW 8) 9 (vW 8), ai cI (aW 9) 9 (vW 9), ai cI (aW 10) 9 (vW 10), ai cI (aW 11) 6 (vW 11), ai cI (aW 12) 6 (vW 12), ai cI (aW 13) 6 (vW 13), oX2 aS vS] (some (.int res.1)) [oX3 aY aW aS res.2, ai cI (aY 3) 427 (res.2 3), ai cI (aY 4) 7 (res.2 4), ai cI (aY 5) 125 (res.2 5), oX4 aW vW, ai cI (aW 5) 7 (vW 5), ai cI (aW 6) 7 (vW 6), ai cI (aW 7) 7 (vW 7), ai cI (aW 8) 9 (vW 8), ai cI (aW 9) 9 (vW 9), ai cI (aW 10) 9 (vW 10), ai cI (aW 11) 6 (vW 11), ai cI (aW 12) 6 (vW 12), ai cI (aW 13) 6 (vW 13), oX2 aS vS] := by
  refine Ct.of_i (maxL := 5) (by decide) rfl (Nat.le_of_ble_eq_true rfl) ?_
  intro p e s m below meth c args hx hb hml hown hts A hA hEN hP hD hS Q hRet ls hl
  have hown : s.vm.findClass RX3 = some m.cls := hown
  have hl : lv_has ls 5 [(0, .ref (aY 0))] := hl
  have L9 : ∀ (out : Ob × Int32), (∀ ex : Ob × Int32, out = ex → ∀ (H : Heap) (locs : List Loc) (ls : Array Slot), va_P G vwCl [oX3 aY aW aS ex.1, ai cI (aY 3) 427 (ex.1 3), ai cI (aY 4) 7 (ex.1 4), ai cI (aY 5) 125 (ex.1 5), oX4 aW vW, ai cI (aW 5) 7 (vW 5), ai cI (aW 6) 7 (vW 6), ai cI (aW 7) 7 (vW 7), ai cI (aW 8) 9 (vW 8), ai cI (aW 9) 9 (vW 9), ai cI (aW 10) 9 (vW 10), ai cI (aW 11) 6 (vW 11), ai cI (aW 12) 6 (vW 12), ai cI (aW 13) 6 (vW 13), oX2 aS vS] H → va_D A [oX3 aY aW aS ex.1, ai cI (aY 3) 427 (ex.1 3), ai cI (aY 4) 7 (ex.1 4), ai cI (aY 5) 125 (ex.1 5), oX4 aW vW, ai cI (aW 5) 7 (vW 5), ai cI (aW 6) 7 (vW 6), ai cI (aW 7) 7 (vW 7), ai cI (aW 8) 9 (vW 8), ai cI (aW 9) 9 (vW 9), ai cI (aW 10) 9 (vW 10), ai cI (aW 11) 6 (vW 11), ai cI (aW 12) 6 (vW 12), ai cI (aW 13) 6 (vW 13), oX2 aS vS] → va_S A s.heap H locs → lv_has ls 5 [(2, .int ex.2)] → W p l e rm_X3_neededRoads s m args below meth c H locs 0 0 Q (F0 m 70 ls [])) → ∀ (n : Nat) (vY : Ob) (x1 : Int32) (x2 : Int32) (x3 : Int32), m_X3_neededRoads_L9 vW vS n vY x1 x2 x3 = some out → ∀ (H : Heap) (locs : List Loc) (ls : Array Slot), va_P G vwCl [oX3 aY aW aS vY, ai cI (aY 3) 427 (vY 3), ai cI (aY 4) 7 (vY 4), ai cI (aY 5) 125 (vY 5), oX4 aW vW, ai cI (aW 5) 7 (vW 5), ai cI (aW 6) 7 (vW 6), ai cI (aW 7) 7 (vW 7), ai cI (aW 8) 9 (vW 8), ai cI (aW 9) 9 (vW 9), ai cI (aW 10) 9 (vW 10), ai cI (aW 11) 6 (vW 11), ai cI (aW 12) 6 (vW 12), ai cI (aW 13) 6 (vW 13), oX2 aS vS] H → va_D A [oX3 aY aW aS vY, ai cI (aY 3) 427 (vY 3), ai cI (aY 4) 7 (vY 4), ai cI (aY 5) 125 (vY 5), oX4 aW vW, ai cI (aW 5) 7 (vW 5), ai cI (aW 6) 7 (vW 6), ai cI (aW 7) 7 (vW 7), ai cI (aW 8) 9 (vW 8), ai cI (aW 9) 9 (vW 9), ai cI (aW 10) 9 (vW 10), ai cI (aW 11) 6 (vW 11), ai cI (aW 12) 6 (vW 12), ai cI (aW 13) 6 (vW 13), oX2 aS vS] → va_S A s.heap H locs → lv_has ls 5 [(0, .ref (aY 0)), (1, .int x1), (2, .int x2), (3, .int x3)] → W p l e rm_X3_neededRoads s m args below meth c H locs 0 0 Q (F0 m 9 ls []) := by
    intro out hKx
    have j64 : ∀ (rc : Ob → Int32 → Int32 → Int32 → Option (Ob × Int32)), (∀ (vY : Ob) (x1 : Int32) (x2 : Int32) (x3 : Int32), rc vY x1 x2 x3 = some out → ∀ (H : Heap) (locs : List Loc) (ls : Array Slot), va_P G vwCl [oX3 aY aW aS vY, ai cI (aY 3) 427 (vY 3), ai cI (aY 4) 7 (vY 4), ai cI (aY 5) 125 (vY 5), oX4 aW vW, ai cI (aW 5) 7 (vW 5), ai cI (aW 6) 7 (vW 6), ai cI (aW 7) 7 (vW 7), ai cI (aW 8) 9 (vW 8), ai cI (aW 9) 9 (vW 9), ai cI (aW 10) 9 (vW 10), ai cI (aW 11) 6 (vW 11), ai cI (aW 12) 6 (vW 12), ai cI (aW 13) 6 (vW 13), oX2 aS vS] H → va_D A [oX3 aY aW aS vY, ai cI (aY 3) 427 (vY 3), ai cI (aY 4) 7 (vY 4), ai cI (aY 5) 125 (vY 5), oX4 aW vW, ai cI (aW 5) 7 (vW 5), ai cI (aW 6) 7 (vW 6), ai cI (aW 7) 7 (vW 7), ai cI (aW 8) 9 (vW 8), ai cI (aW 9) 9 (vW 9), ai cI (aW 10) 9 (vW 10), ai cI (aW 11) 6 (vW 11), ai cI (aW 12) 6 (vW 12), ai cI (aW 13) 6 (vW 13), oX2 aS vS] → va_S A s.heap H locs → lv_has ls 5 [(0, .ref (aY 0)), (1, .int x1), (2, .int x2), (3, .int x3)] → W p l e rm_X3_neededRoads s m args below meth c H locs 0 0 Q (F0 m 9 ls [])) → ∀ (vY : Ob) (x1 : Int32) (x2 : Int32) (x3 : Int32), m_X3_neededRoads_j64 vW vS rc vY x1 x2 x3 = some out → ∀ (H : Heap) (locs : List Loc) (ls : Array Slot), va_P G vwCl [oX3 aY aW aS vY, ai cI (aY 3) 427 (vY 3), ai cI (aY 4) 7 (vY 4), ai cI (aY 5) 125 (vY 5), oX4 aW vW, ai cI (aW 5) 7 (vW 5), ai cI (aW 6) 7 (vW 6), ai cI (aW 7) 7 (vW 7), ai cI (aW 8) 9 (vW 8), ai cI (aW 9) 9 (vW 9), ai cI (aW 10) 9 (vW 10), ai cI (aW 11) 6 (vW 11), ai cI (aW 12) 6 (vW 12), ai cI (aW 13) 6 (vW 13), oX2 aS vS] H → va_D A [oX3 aY aW aS vY, ai cI (aY 3) 427 (vY 3), ai cI (aY 4) 7 (vY 4), ai cI (aY 5) 125 (vY 5), oX4 aW vW, ai cI (aW 5) 7 (vW 5), ai cI (aW 6) 7 (vW 6), ai cI (aW 7) 7 (vW 7), ai cI (aW 8) 9 (vW 8), ai cI (aW 9) 9 (vW 9), ai cI (aW 10) 9 (vW 10), ai cI (aW 11) 6 (vW 11), ai cI (aW 12) 6 (vW 12), ai cI (aW 13) 6 (vW 13), oX2 aS vS] → va_S A s.heap H locs → lv_has ls 5 [(0, .ref (aY 0)), (1, .int x1), (2, .int x2), (3, .int x3)] → W p l e rm_X3_neededRoads s m args below meth c H locs 0 0 Q (F0 m 64 ls []) := by
      intro rc hrc vY x1 x2 x3 h H locs ls hP hD hS hl
      unfold m_X3_neededRoads_j64 at h
      refine lv_iinc (v := (x3 + (1 : Int32))) (lv' := [(3, .int (x3 + (1 : Int32))), (0, .ref (aY 0)), (1, .int x1), (2, .int x2)]) hx hb dX3_neededRoads_64 hl (k := 3) rfl (congrArg (fun z => x3 + z) k_iconst_1) (by decide) rfl (fun ls hl => ?_)
      refine lv_goto (tgt := 9) hx hb dX3_neededRoads_67 (by decide) ?_
      exact hrc vY x1 x2 (x3 + (1 : Int32)) h _ _ _ hP hD hS (lv_sub hl [1, 2, 3, 0] rfl)
    have j36 : ∀ (rc : Ob → Int32 → Int32 → Int32 → Option (Ob × Int32)), (∀ (vY : Ob) (x1 : Int32) (x2 : Int32) (x3 : Int32), rc vY x1 x2 x3 = some out → ∀ (H : Heap) (locs : List Loc) (ls : Array Slot), va_P G vwCl [oX3 aY aW aS vY, ai cI (aY 3) 427 (vY 3), ai cI (aY 4) 7 (vY 4), ai cI (aY 5) 125 (vY 5), oX4 aW vW, ai cI (aW 5) 7 (vW 5), ai cI (aW 6) 7 (vW 6), ai cI (aW 7) 7 (vW 7), ai cI (aW 8) 9 (vW 8), ai cI (aW 9) 9 (vW 9), ai cI (aW 10) 9 (vW 10), ai cI (aW 11) 6 (vW 11), ai cI (aW 12) 6 (vW 12), ai cI (aW 13) 6 (vW 13), oX2 aS vS] H → va_D A [oX3 aY aW aS vY, ai cI (aY 3) 427 (vY 3), ai cI (aY 4) 7 (vY 4), ai cI (aY 5) 125 (vY 5), oX4 aW vW, ai cI (aW 5) 7 (vW 5), ai cI (aW 6) 7 (vW 6), ai cI (aW 7) 7 (vW 7), ai cI (aW 8) 9 (vW 8), ai cI (aW 9) 9 (vW 9), ai cI (aW 10) 9 (vW 10), ai cI (aW 11) 6 (vW 11), ai cI (aW 12) 6 (vW 12), ai cI (aW 13) 6 (vW 13), oX2 aS vS] → va_S A s.heap H locs → lv_has ls 5 [(0, .ref (aY 0)), (1, .int x1), (2, .int x2), (3, .int x3)] → W p l e rm_X3_neededRoads s m args below meth c H locs 0 0 Q (F0 m 9 ls [])) → ∀ (vY : Ob) (x1 : Int32) (x2 : Int32) (x3 : Int32) (s0 : Int32), m_X3_neededRoads_j36 vW vS rc vY x1 x2 x3 s0 = some out → ∀ (H : Heap) (locs : List Loc) (ls : Array Slot), va_P G vwCl [oX3 aY aW aS vY, ai cI (aY 3) 427 (vY 3), ai cI (aY 4) 7 (vY 4), ai cI (aY 5) 125 (vY 5), oX4 aW vW, ai cI (aW 5) 7 (vW 5), ai cI (aW 6) 7 (vW 6), ai cI (aW 7) 7 (vW 7), ai cI (aW 8) 9 (vW 8), ai cI (aW 9) 9 (vW 9), ai cI (aW 10) 9 (vW 10), ai cI (aW 11) 6 (vW 11), ai cI (aW 12) 6 (vW 12), ai cI (aW 13) 6 (vW 13), oX2 aS vS] H → va_D A [oX3 aY aW aS vY, ai cI (aY 3) 427 (vY 3), ai cI (aY 4) 7 (vY 4), ai cI (aY 5) 125 (vY 5), oX4 aW vW, ai cI (aW 5) 7 (vW 5), ai cI (aW 6) 7 (vW 6), ai cI (aW 7) 7 (vW 7), ai cI (aW 8) 9 (vW 8), ai cI (aW 9) 9 (vW 9), ai cI (aW 10) 9 (vW 10), ai cI (aW 11) 6 (vW 11), ai cI (aW 12) 6 (vW 12), ai cI (aW 13) 6 (vW 13), oX2 aS vS] → va_S A s.heap H locs → lv_has ls 5 [(0, .ref (aY 0)), (1, .int x1), (2, .int x2), (3, .int x3)] → W p l e rm_X3_neededRoads s m args below meth c H locs 0 0 Q (F0 m 36 ls [.int s0]) := by
      intro rc hrc vY x1 x2 x3 s0 h H locs ls hP hD hS hl
      unfold m_X3_neededRoads_j36 at h
      refine lv_istore (lv' := [(4, .int s0), (0, .ref (aY 0)), (1, .int x1), (2, .int x2), (3, .int x3)]) hx hb dX3_neededRoads_36 hl (by decide) rfl (fun ls hl => ?_)
      refine lv_iload hx hb dX3_neededRoads_38 (lv_at hl 0 rfl) ?_
      refine lv_if_eq (tgt := 64) hx hb dX3_neededRoads_40 (by decide) (fun c40 => ?_) (fun c40 => ?_)
      · have h := (if_pos c40).symm.trans h
        exact j64 rc hrc vY x1 x2 x3 h _ _ _ hP hD hS (lv_sub hl [1, 2, 3, 4] rfl)
      · have h := (if_neg c40).symm.trans h
        refine lv_aload_n hx hb dX3_neededRoads_43 rfl (lv_at hl 1 rfl) ?_
        refine lv_aload_n hx hb dX3_neededRoads_44 rfl (lv_at hl 1 rfl) ?_
        refine va_get (D := G) (ci := 3) (v := .int (vY 0 7)) (C := RX3) (T := TX3) (N := 14) hx hb hts fi_X3_neededRoads_X3 hown hEN.1 hP 0 rfl rfl 7 (by decide) (hts (.fieldLink RX3 29 "HourWell$Ways" "wayThing" "I") (List.mem_of_getElem? (i := 3) rfl)) (fun _ h9 => h9) rfl dX3_neededRoads_45 ?_
        refine lv_iload_n hx hb dX3_neededRoads_48 rfl (lv_at hl 4 rfl) ?_
        refine lv_iconst (v := (-1 : Int32)) hx hb dX3_neededRoads_49 k_iconst_n1 ?_
        obtain ⟨o50, ho50, h⟩ := bnd_some h
        refine call_VJ (wr := []) (As := [.int (vY 0 7), .int x3, .int (-1 : Int32)]) (rest := []) ⟨hx, hb, hml, hown, hts⟩ (c_X3_fewestHours l G cI cZ aY aW aS vY vW vS (vY 0 7) x3 (-1 : Int32) o50 ho50) (cwV 3 hts gX3_neededRoads_X3_fewestHours rfl rfl rfl hdV_X3_fewestHours ⟨Nat.le_of_ble_eq_true rfl, Nat.le_of_ble_eq_true rfl⟩) hEN hA hP hD hS [0, 1, 2, 3, 4, 5, 6, 7, 8, 9, 10, 11, 12, 13, 14] [] rfl (by decide) rfl (by decide) (by decide) 0 rfl rfl rfl hl.1 rfl (Nat.le_of_ble_eq_true rfl) dX3_neededRoads_50 ⟨Nat.le_of_ble_eq_true rfl, Nat.le_of_ble_eq_true rfl⟩ (fun H locs hP hD hS => ?_)
        have hP : va_P G vwCl [oX3 aY aW aS o50.2, ai cI (aY 3) 427 (o50.2 3), ai cI (aY 4) 7 (o50.2 4), ai cI (aY 5) 125 (o50.2 5), oX4 aW vW, ai cI (aW 5) 7 (vW 5), ai cI (aW 6) 7 (vW 6), ai cI (aW 7) 7 (vW 7), ai cI (aW 8) 9 (vW 8), ai cI (aW 9) 9 (vW 9), ai cI (aW 10) 9 (vW 10), ai cI (aW 11) 6 (vW 11), ai cI (aW 12) 6 (vW 12), ai cI (aW 13) 6 (vW 13), oX2 aS vS] H := hP
        have hD : va_D A [oX3 aY aW aS o50.2, ai cI (aY 3) 427 (o50.2 3), ai cI (aY 4) 7 (o50.2 4), ai cI (aY 5) 125 (o50.2 5), oX4 aW vW, ai cI (aW 5) 7 (vW 5), ai cI (aW 6) 7 (vW 6), ai cI (aW 7) 7 (vW 7), ai cI (aW 8) 9 (vW 8), ai cI (aW 9) 9 (vW 9), ai cI (aW 10) 9 (vW 10), ai cI (aW 11) 6 (vW 11), ai cI (aW 12) 6 (vW 12), ai cI (aW 13) 6 (vW 13), oX2 aS vS] := hD
        refine lv_bipush (v := (-9 : Int32)) hx hb dX3_neededRoads_53 k_bipush_n9 ?_
        refine lv_icmp_ne (tgt := 64) hx hb dX3_neededRoads_55 (by decide) (fun c55 => ?_) (fun c55 => ?_)
        · have h := (if_neg c55).symm.trans h
          exact j64 rc hrc o50.2 x1 x2 x3 h _ _ _ hP hD hS (lv_sub hl [1, 2, 3, 4] rfl)
        · have h := (if_pos c55).symm.trans h
          refine lv_iload_n hx hb dX3_neededRoads_58 rfl (lv_at hl 3 rfl) ?_
          refine lv_iconst (v := (1 : Int32)) hx hb dX3_neededRoads_59 k_iconst_1 ?_
          refine lv_iload_n hx hb dX3_neededRoads_60 rfl (lv_at hl 4 rfl) ?_
          refine lv_ishl hx hb dX3_neededRoads_61 ?_
          refine lv_ior hx hb dX3_neededRoads_62 ?_
          refine lv_istore_n (lv' := [(2, .int (x2 ||| ((1 : Int32) <<< (x3 &&& 31)))), (4, .int s0), (0, .ref (aY 0)), (1, .int x1), (3, .int x3)]) hx hb dX3_neededRoads_63 rfl hl (by decide) rfl (fun ls hl => ?_)
          exact j64 rc hrc o50.2 x1 (x2 ||| ((1 : Int32) <<< (x3 &&& 31))) x3 h _ _ _ hP hD hS (lv_sub hl [2, 3, 0, 4] rfl)
    intro n
    induction n with
    | zero => intro vY x1 x2 x3 h; exact nomatch (show (none : Option (Ob × Int32)) = some out from h)
    | succ n hrc =>
      intro vY x1 x2 x3 h H locs ls hP hD hS hl
      have h : m_X3_neededRoads_L9B vW vS (m_X3_neededRoads_L9 vW vS n) vY x1 x2 x3 = some out := h
      generalize m_X3_neededRoads_L9 vW vS n = rc at h hrc
      unfold m_X3_neededRoads_L9B at h
      refine lv_iload_n hx hb dX3_neededRoads_9 rfl (lv_at hl 3 rfl) ?_
      refine lv_aload_n hx hb dX3_neededRoads_10 rfl (lv_at hl 0 rfl) ?_
      refine va_get (D := G) (ci := 3) (v := .ref (aW 0)) (C := RX3) (T := TX3) (N := 14) hx hb hts fi_X3_neededRoads_X3 hown hEN.1 hP 0 rfl rfl 0 (by decide) (hts (.fieldLink RX3 21 "HourWell$Ways" "world" "LHourWell$World;") (List.mem_of_getElem? (i := 1) rfl)) (fun _ h9 => h9) rfl dX3_neededRoads_11 ?_
      refine va_get (D := G) (ci := 4) (v := .int (vW 0 1)) (C := RX4) (T := TX4) (N := 13) hx hb hts fi_X3_neededRoads_X4 hown hEN.1 hP 4 rfl rfl 1 (by decide) (hts (.fieldLink RX3 104 "HourWell$World" "roads" "I") (List.mem_of_getElem? (i := 2) rfl)) (fun _ h9 => h9) rfl dX3_neededRoads_14 ?_
      refine lv_icmp_ge (tgt := 70) hx hb dX3_neededRoads_17 (by decide) (fun c17 => ?_) (fun c17 => ?_)
      · have h := (if_pos c17).symm.trans h
        exact hKx _ (Option.some.inj h).symm _ _ _ hP hD hS (lv_sub hl [2] rfl)
      · have h := (if_neg c17).symm.trans h
        refine lv_iload_n hx hb dX3_neededRoads_20 rfl (lv_at hl 1 rfl) ?_
        refine lv_iconst (v := (1 : Int32)) hx hb dX3_neededRoads_21 k_iconst_1 ?_
        refine lv_iload_n hx hb dX3_neededRoads_22 rfl (lv_at hl 3 rfl) ?_
        refine lv_iadd hx hb dX3_neededRoads_23 ?_
        refine lv_ishr hx hb dX3_neededRoads_24 ?_
        refine lv_iconst (v := (1 : Int32)) hx hb dX3_neededRoads_25 k_iconst_1 ?_
        refine lv_iand hx hb dX3_neededRoads_26 ?_
        refine lv_iconst (v := (1 : Int32)) hx hb dX3_neededRoads_27 k_iconst_1 ?_
        refine lv_icmp_ne (tgt := 35) hx hb dX3_neededRoads_28 (by decide) (fun c28 => ?_) (fun c28 => ?_)
        · have h := (if_neg c28).symm.trans h
          refine lv_iconst (v := (0 : Int32)) hx hb dX3_neededRoads_35 k_iconst_0 ?_
          exact j36 rc hrc vY x1 x2 x3 (0 : Int32) h _ _ _ hP hD hS (lv_sub hl [0, 1, 2, 3] rfl)
        · have h := (if_pos c28).symm.trans h
          refine lv_iconst (v := (1 : Int32)) hx hb dX3_neededRoads_31 k_iconst_1 ?_
          refine lv_goto (tgt := 36) hx hb dX3_neededRoads_32 (by decide) ?_
          exact j36 rc hrc vY x1 x2 x3 (1 : Int32) h _ _ _ hP hD hS (lv_sub hl [0, 1, 2, 3] rfl)
  unfold m_X3_neededRoads at h
  refine lv_aload_n hx hb dX3_neededRoads_0 rfl (lv_at hl 0 rfl) ?_
  obtain ⟨o1, ho1, h⟩ := bnd_some h
  refine call_V0 (As := []) (rest := []) ⟨hx, hb, hml, hown, hts⟩ (c_X3_usedSteps l G cI cZ aY aW aS vY o1 ho1) (cwV 0 hts gX3_neededRoads_X3_usedSteps rfl rfl rfl hdV_X3_usedSteps ⟨Nat.le_of_ble_eq_true rfl, Nat.le_of_ble_eq_true rfl⟩) hEN hA hP hD hS [0, 3] rfl (by decide) 0 rfl rfl rfl hl.1 rfl (Nat.le_of_ble_eq_true rfl) dX3_neededRoads_1 ⟨Nat.le_of_ble_eq_true rfl, Nat.le_of_ble_eq_true rfl⟩ (fun H locs hP hS => ?_)
  refine lv_istore_n (lv' := [(1, .int o1), (0, .ref (aY 0))]) hx hb dX3_neededRoads_4 rfl hl (by decide) rfl (fun ls hl => ?_)
  refine lv_iconst (v := (0 : Int32)) hx hb dX3_neededRoads_5 k_iconst_0 ?_
  refine lv_istore_n (lv' := [(2, .int (0 : Int32)), (1, .int o1), (0, .ref (aY 0))]) hx hb dX3_neededRoads_6 rfl hl (by decide) rfl (fun ls hl => ?_)
  refine lv_iconst (v := (0 : Int32)) hx hb dX3_neededRoads_7 k_iconst_0 ?_
  refine lv_istore_n (lv' := [(3, .int (0 : Int32)), (2, .int (0 : Int32)), (1, .int o1), (0, .ref (aY 0))]) hx hb dX3_neededRoads_8 rfl hl (by decide) rfl (fun ls hl => ?_)
  obtain ⟨o9_1, ho9_1, h⟩ := bnd_some h
  refine L9 o9_1 (fun o9_1e er H locs ls hP hD hS hl => ?_) FU vY o1 (0 : Int32) (0 : Int32) ho9_1 _ _ _ hP hD hS (lv_sub hl [3, 2, 1, 0] rfl)
  subst er
  refine lv_iload_n hx hb dX3_neededRoads_70 rfl (lv_at hl 0 rfl) ?_
  have hres := Option.some.inj h
  subst hres
  exact hRet 71 _ _ _ hP hD hS dX3_neededRoads_71
abbrev rm_X3_neededHosts : Room := { frames := 5, cells := 0, slots := 0, locals := 122 }
theorem fi_X3_neededHosts_X3 : ∀ w ∈ wsX30, w ∈ wsX3_neededHosts := fun _ h => List.mem_cons_of_mem _ (List.mem_append_left _ (List.mem_append_left _ (List.mem_append_right _ h)))
theorem fi_X3_neededHosts_X4 : ∀ w ∈ wsX40, w ∈ wsX3_neededHosts := fun _ h => List.mem_cons_of_mem _ (List.mem_append_left _ (List.mem_append_right _ h))
theorem fi_X3_neededHosts_X2 : ∀ w ∈ wsX20, w ∈ wsX3_neededHosts := fun _ h => List.mem_cons_of_mem _ (List.mem_append_right _ h)
theorem hdV_X3_neededHosts : yX3_neededHosts.cls = RX3 ∧ yX3_neededHosts.cls ≠ "java/lang/invoke/MethodHandle" ∧ yX3_neededHosts.cls ≠ "java/lang/invoke/VarHandle" ∧ (parseMethodDescriptor yX3_neededHosts.desc).map (fun d => d.parameters.length) = some 0 := by decide +kernel
set_option maxRecDepth 100000 in
set_option maxHeartbeats 4000000 in
theorem c_X3_neededHosts (l : Launch) (G : va_G) (cI cZ : ClassId) (aY : Nat → Nat) (aW : Nat → Nat) (aS : Nat → Nat) (vY : Ob) (vW : Ob) (vS : Ob)  (res : Int32 × Ob) (h : m_X3_neededHosts vY vW vS  = some res) : Ct l yX3_neededHosts wsX3_neededHosts rm_X3_neededHosts G cI cZ [.ref (aY 0)] [oX3 aY aW aS vY, ai cI (aY 3) 427 (vY 3), ai cI (aY 4) 7 (vY 4), ai cI (aY 5) 125 (vY 5), oX4 aW vW, ai cI (aW 5) 7 (vW 5), ai cI (aW 6) 7 (vW 6), ai cI (aW 7) 7 (vW 7), ai cI (aW 8) 9 (vW 8), ai cI (aW 9) 9 (vW 9), ai cI (aW 10) 9 (vW 10), ai cI (aW 11) 6 (vW 11), ai cI (aW 12) 6 (vW 12), ai cI (aW 13) 6 (vW 13), oX2 aS vS] (some (.int res.1)) [oX3 aY aW aS res.2, ai cI (aY 3) 427 (res.2 3), ai cI (aY 4) 7 (res.2 4), ai cI (aY 5) 125 (res.2 5), oX4 aW vW, ai cI (aW 5) 7 (vW 5), ai cI (aW 6) 7 (vW 6), ai cI (aW 7) 7 (vW 7), ai cI (aW 8) 9 (vW 8), ai cI (aW 9) 9 (vW 9), ai cI (aW 10) 9 (vW 10), ai cI (aW 11) 6 (vW 11), ai cI (aW 12) 6 (vW 12), ai cI (aW 13) 6 (vW 13), oX2 aS vS] := by
  refine Ct.of_i (maxL := 5) (by decide) rfl (Nat.le_of_ble_eq_true rfl) ?_
  intro p e s m below meth c args hx hb hml hown hts A hA hEN hP hD hS Q hRet ls hl
  have hown : s.vm.findClass RX3 = some m.cls := hown
  have hl : lv_has ls 5 [(0, .ref (aY 0))] := hl
  have L9 : ∀ (out : Ob × Int32), (∀ ex : Ob × Int32, out = ex → ∀ (H : Heap) (locs : List Loc) (ls : Array Slot), va_P G vwCl [oX3 aY aW aS ex.1, ai cI (aY 3) 427 (ex.1 3), ai cI (aY 4) 7 (ex.1 4), ai cI (aY 5) 125 (ex.1 5), oX4 aW vW, ai cI (aW 5) 7 (vW 5), ai cI (aW 6) 7 (vW 6), ai cI (aW 7) 7 (vW 7), ai cI (aW 8) 9 (vW 8), ai cI (aW 9) 9 (vW 9), ai cI (aW 10) 9 (vW 10), ai cI (aW 11) 6 (vW 11), ai cI (aW 12) 6 (vW 12), ai cI (aW 13) 6 (vW 13), oX2 aS vS] H → va_D A [oX3 aY aW aS ex.1, ai cI (aY 3) 427 (ex.1 3), ai cI (aY 4) 7 (ex.1 4), ai cI (aY 5) 125 (ex.1 5), oX4 aW vW, ai cI (aW 5) 7 (vW 5), ai cI (aW 6) 7 (vW 6), ai cI (aW 7) 7 (vW 7), ai cI (aW 8) 9 (vW 8), ai cI (aW 9) 9 (vW 9), ai cI (aW 10) 9 (vW 10), ai cI (aW 11) 6 (vW 11), ai cI (aW 12) 6 (vW 12), ai cI (aW 13) 6 (vW 13), oX2 aS vS] → va_S A s.heap H locs → lv_has ls 5 [(2, .int ex.2)] → W p l e rm_X3_neededHosts s m args below meth c H locs 0 0 Q (F0 m 71 ls [])) → ∀ (n : Nat) (vY : Ob) (x1 : Int32) (x2 : Int32) (x3 : Int32), m_X3_neededHosts_L9 vW vS n vY x1 x2 x3 = some out → ∀ (H : Heap) (locs : List Loc) (ls : Array Slot), va_P G vwCl [oX3 aY aW aS vY, ai cI (aY 3) 427 (vY 3), ai cI (aY 4) 7 (vY 4), ai cI (aY 5) 125 (vY 5), oX4 aW vW, ai cI (aW 5) 7 (vW 5), ai cI (aW 6) 7 (vW 6), ai cI (aW 7) 7 (vW 7), ai cI (aW 8) 9 (vW 8), ai cI (aW 9) 9 (vW 9), ai cI (aW 10) 9 (vW 10), ai cI (aW 11) 6 (vW 11), ai cI (aW 12) 6 (vW 12), ai cI (aW 13) 6 (vW 13), oX2 aS vS] H → va_D A [oX3 aY aW aS vY, ai cI (aY 3) 427 (vY 3), ai cI (aY 4) 7 (vY 4), ai cI (aY 5) 125 (vY 5), oX4 aW vW, ai cI (aW 5) 7 (vW 5), ai cI (aW 6) 7 (vW 6), ai cI (aW 7) 7 (vW 7), ai cI (aW 8) 9 (vW 8), ai cI (aW 9) 9 (vW 9), ai cI (aW 10) 9 (vW 10), ai cI (aW 11) 6 (vW 11), ai cI (aW 12) 6 (vW 12), ai cI (aW 13) 6 (vW 13), oX2 aS vS] → va_S A s.heap H locs → lv_has ls 5 [(0, .ref (aY 0)), (1, .int x1), (2, .int x2), (3, .int x3)] → W p l e rm_X3_neededHosts s m args below meth c H locs 0 0 Q (F0 m 9 ls []) := by
    intro out hKx
    have j65 : ∀ (rc : Ob → Int32 → Int32 → Int32 → Option (Ob × Int32)), (∀ (vY : Ob) (x1 : Int32) (x2 : Int32) (x3 : Int32), rc vY x1 x2 x3 = some out → ∀ (H : Heap) (locs : List Loc) (ls : Array Slot), va_P G vwCl [oX3 aY aW aS vY, ai cI (aY 3) 427 (vY 3), ai cI (aY 4) 7 (vY 4), ai cI (aY 5) 125 (vY 5), oX4 aW vW, ai cI (aW 5) 7 (vW 5), ai cI (aW 6) 7 (vW 6), ai cI (aW 7) 7 (vW 7), ai cI (aW 8) 9 (vW 8), ai cI (aW 9) 9 (vW 9), ai cI (aW 10) 9 (vW 10), ai cI (aW 11) 6 (vW 11), ai cI (aW 12) 6 (vW 12), ai cI (aW 13) 6 (vW 13), oX2 aS vS] H → va_D A [oX3 aY aW aS vY, ai cI (aY 3) 427 (vY 3), ai cI (aY 4) 7 (vY 4), ai cI (aY 5) 125 (vY 5), oX4 aW vW, ai cI (aW 5) 7 (vW 5), ai cI (aW 6) 7 (vW 6), ai cI (aW 7) 7 (vW 7), ai cI (aW 8) 9 (vW 8), ai cI (aW 9) 9 (vW 9), ai cI (aW 10) 9 (vW 10), ai cI (aW 11) 6 (vW 11), ai cI (aW 12) 6 (vW 12), ai cI (aW 13) 6 (vW 13), oX2 aS vS] → va_S A s.heap H locs → lv_has ls 5 [(0, .ref (aY 0)), (1, .int x1), (2, .int x2), (3, .int x3)] → W p l e rm_X3_neededHosts s m args below meth c H locs 0 0 Q (F0 m 9 ls [])) → ∀ (vY : Ob) (x1 : Int32) (x2 : Int32) (x3 : Int32), m_X3_neededHosts_j65 vW vS rc vY x1 x2 x3 = some out → ∀ (H : Heap) (locs : List Loc) (ls : Array Slot), va_P G vwCl [oX3 aY aW aS vY, ai cI (aY 3) 427 (vY 3), ai cI (aY 4) 7 (vY 4), ai cI (aY 5) 125 (vY 5), oX4 aW vW, ai cI (aW 5) 7 (vW 5), ai cI (aW 6) 7 (vW 6), ai cI (aW 7) 7 (vW 7), ai cI (aW 8) 9 (vW 8), ai cI (aW 9) 9 (vW 9), ai cI (aW 10) 9 (vW 10), ai cI (aW 11) 6 (vW 11), ai cI (aW 12) 6 (vW 12), ai cI (aW 13) 6 (vW 13), oX2 aS vS] H → va_D A [oX3 aY aW aS vY, ai cI (aY 3) 427 (vY 3), ai cI (aY 4) 7 (vY 4), ai cI (aY 5) 125 (vY 5), oX4 aW vW, ai cI (aW 5) 7 (vW 5), ai cI (aW 6) 7 (vW 6), ai cI (aW 7) 7 (vW 7), ai cI (aW 8) 9 (vW 8), ai cI (aW 9) 9 (vW 9), ai cI (aW 10) 9 (vW 10), ai cI (aW 11) 6 (vW 11), ai cI (aW 12) 6 (vW 12), ai cI (aW 13) 6 (vW 13), oX2 aS vS] → va_S A s.heap H locs → lv_has ls 5 [(0, .ref (aY 0)), (1, .int x1), (2, .int x2), (3, .int x3)] → W p l e rm_X3_neededHosts s m args below meth c H locs 0 0 Q (F0 m 65 ls []) := by
      intro rc hrc vY x1 x2 x3 h H locs ls hP hD hS hl
      unfold m_X3_neededHosts_j65 at h
      refine lv_iinc (v := (x3 + (1 : Int32))) (lv' := [(3, .int (x3 + (1 : Int32))), (0, .ref (aY 0)), (1, .int x1), (2, .int x2)]) hx hb dX3_neededHosts_65 hl (k := 3) rfl (congrArg (fun z => x3 + z) k_iconst_1) (by decide) rfl (fun ls hl => ?_)
      refine lv_goto (tgt := 9) hx hb dX3_neededHosts_68 (by decide) ?_
      exact hrc vY x1 x2 (x3 + (1 : Int32)) h _ _ _ hP hD hS (lv_sub hl [1, 2, 3, 0] rfl)
    have j37 : ∀ (rc : Ob → Int32 → Int32 → Int32 → Option (Ob × Int32)), (∀ (vY : Ob) (x1 : Int32) (x2 : Int32) (x3 : Int32), rc vY x1 x2 x3 = some out → ∀ (H : Heap) (locs : List Loc) (ls : Array Slot), va_P G vwCl [oX3 aY aW aS vY, ai cI (aY 3) 427 (vY 3), ai cI (aY 4) 7 (vY 4), ai cI (aY 5) 125 (vY 5), oX4 aW vW, ai cI (aW 5) 7 (vW 5), ai cI (aW 6) 7 (vW 6), ai cI (aW 7) 7 (vW 7), ai cI (aW 8) 9 (vW 8), ai cI (aW 9) 9 (vW 9), ai cI (aW 10) 9 (vW 10), ai cI (aW 11) 6 (vW 11), ai cI (aW 12) 6 (vW 12), ai cI (aW 13) 6 (vW 13), oX2 aS vS] H → va_D A [oX3 aY aW aS vY, ai cI (aY 3) 427 (vY 3), ai cI (aY 4) 7 (vY 4), ai cI (aY 5) 125 (vY 5), oX4 aW vW, ai cI (aW 5) 7 (vW 5), ai cI (aW 6) 7 (vW 6), ai cI (aW 7) 7 (vW 7), ai cI (aW 8) 9 (vW 8), ai cI (aW 9) 9 (vW 9), ai cI (aW 10) 9 (vW 10), ai cI (aW 11) 6 (vW 11), ai cI (aW 12) 6 (vW 12), ai cI (aW 13) 6 (vW 13), oX2 aS vS] → va_S A s.heap H locs → lv_has ls 5 [(0, .ref (aY 0)), (1, .int x1), (2, .int x2), (3, .int x3)] → W p l e rm_X3_neededHosts s m args below meth c H locs 0 0 Q (F0 m 9 ls [])) → ∀ (vY : Ob) (x1 : Int32) (x2 : Int32) (x3 : Int32) (s0 : Int32), m_X3_neededHosts_j37 vW vS rc vY x1 x2 x3 s0 = some out → ∀ (H : Heap) (locs : List Loc) (ls : Array Slot), va_P G vwCl [oX3 aY aW aS vY, ai cI (aY 3) 427 (vY 3), ai cI (aY 4) 7 (vY 4), ai cI (aY 5) 125 (vY 5), oX4 aW vW, ai cI (aW 5) 7 (vW 5), ai cI (aW 6) 7 (vW 6), ai cI (aW 7) 7 (vW 7), ai cI (aW 8) 9 (vW 8), ai cI (aW 9) 9 (vW 9), ai cI (aW 10) 9 (vW 10), ai cI (aW 11) 6 (vW 11), ai cI (aW 12) 6 (vW 12), ai cI (aW 13) 6 (vW 13), oX2 aS vS] H → va_D A [oX3 aY aW aS vY, ai cI (aY 3) 427 (vY 3), ai cI (aY 4) 7 (vY 4), ai cI (aY 5) 125 (vY 5), oX4 aW vW, ai cI (aW 5) 7 (vW 5), ai cI (aW 6) 7 (vW 6), ai cI (aW 7) 7 (vW 7), ai cI (aW 8) 9 (vW 8), ai cI (aW 9) 9 (vW 9), ai cI (aW 10) 9 (vW 10), ai cI (aW 11) 6 (vW 11), ai cI (aW 12) 6 (vW 12), ai cI (aW 13) 6 (vW 13), oX2 aS vS] → va_S A s.heap H locs → lv_has ls 5 [(0, .ref (aY 0)), (1, .int x1), (2, .int x2), (3, .int x3)] → W p l e rm_X3_neededHosts s m args below meth c H locs 0 0 Q (F0 m 37 ls [.int s0]) := by
      intro rc hrc vY x1 x2 x3 s0 h H locs ls hP hD hS hl
      unfold m_X3_neededHosts_j37 at h
      refine lv_istore (lv' := [(4, .int s0), (0, .ref (aY 0)), (1, .int x1), (2, .int x2), (3, .int x3)]) hx hb dX3_neededHosts_37 hl (by decide) rfl (fun ls hl => ?_)
      refine lv_iload hx hb dX3_neededHosts_39 (lv_at hl 0 rfl) ?_
      refine lv_if_eq (tgt := 65) hx hb dX3_neededHosts_41 (by decide) (fun c41 => ?_) (fun c41 => ?_)
      · have h := (if_pos c41).symm.trans h
        exact j65 rc hrc vY x1 x2 x3 h _ _ _ hP hD hS (lv_sub hl [1, 2, 3, 4] rfl)
      · have h := (if_neg c41).symm.trans h
        refine lv_aload_n hx hb dX3_neededHosts_44 rfl (lv_at hl 1 rfl) ?_
        refine lv_aload_n hx hb dX3_neededHosts_45 rfl (lv_at hl 1 rfl) ?_
        refine va_get (D := G) (ci := 3) (v := .int (vY 0 7)) (C := RX3) (T := TX3) (N := 14) hx hb hts fi_X3_neededHosts_X3 hown hEN.1 hP 0 rfl rfl 7 (by decide) (hts (.fieldLink RX3 29 "HourWell$Ways" "wayThing" "I") (List.mem_of_getElem? (i := 3) rfl)) (fun _ h9 => h9) rfl dX3_neededHosts_46 ?_
        refine lv_iconst (v := (-1 : Int32)) hx hb dX3_neededHosts_49 k_iconst_n1 ?_
        refine lv_iload_n hx hb dX3_neededHosts_50 rfl (lv_at hl 4 rfl) ?_
        obtain ⟨o51, ho51, h⟩ := bnd_some h
        refine call_VJ (wr := []) (As := [.int (vY 0 7), .int (-1 : Int32), .int x3]) (rest := []) ⟨hx, hb, hml, hown, hts⟩ (c_X3_fewestHours l G cI cZ aY aW aS vY vW vS (vY 0 7) (-1 : Int32) x3 o51 ho51) (cwV 3 hts gX3_neededHosts_X3_fewestHours rfl rfl rfl hdV_X3_fewestHours ⟨Nat.le_of_ble_eq_true rfl, Nat.le_of_ble_eq_true rfl⟩) hEN hA hP hD hS [0, 1, 2, 3, 4, 5, 6, 7, 8, 9, 10, 11, 12, 13, 14] [] rfl (by decide) rfl (by decide) (by decide) 0 rfl rfl rfl hl.1 rfl (Nat.le_of_ble_eq_true rfl) dX3_neededHosts_51 ⟨Nat.le_of_ble_eq_true rfl, Nat.le_of_ble_eq_true rfl⟩ (fun H locs hP hD hS => ?_)
        have hP : va_P G vwCl [oX3 aY aW aS o51.2, ai cI (aY 3) 427 (o51.2 3), ai cI (aY 4) 7 (o51.2 4), ai cI (aY 5) 125 (o51.2 5), oX4 aW vW, ai cI (aW 5) 7 (vW 5), ai cI (aW 6) 7 (vW 6), ai cI (aW 7) 7 (vW 7), ai cI (aW 8) 9 (vW 8), ai cI (aW 9) 9 (vW 9), ai cI (aW 10) 9 (vW 10), ai cI (aW 11) 6 (vW 11), ai cI (aW 12) 6 (vW 12), ai cI (aW 13) 6 (vW 13), oX2 aS vS] H := hP
        have hD : va_D A [oX3 aY aW aS o51.2, ai cI (aY 3) 427 (o51.2 3), ai cI (aY 4) 7 (o51.2 4), ai cI (aY 5) 125 (o51.2 5), oX4 aW vW, ai cI (aW 5) 7 (vW 5), ai cI (aW 6) 7 (vW 6), ai cI (aW 7) 7 (vW 7), ai cI (aW 8) 9 (vW 8), ai cI (aW 9) 9 (vW 9), ai cI (aW 10) 9 (vW 10), ai cI (aW 11) 6 (vW 11), ai cI (aW 12) 6 (vW 12), ai cI (aW 13) 6 (vW 13), oX2 aS vS] := hD
        refine lv_bipush (v := (-9 : Int32)) hx hb dX3_neededHosts_54 k_bipush_n9 ?_
        refine lv_icmp_ne (tgt := 65) hx hb dX3_neededHosts_56 (by decide) (fun c56 => ?_) (fun c56 => ?_)
        · have h := (if_neg c56).symm.trans h
          exact j65 rc hrc o51.2 x1 x2 x3 h _ _ _ hP hD hS (lv_sub hl [1, 2, 3, 4] rfl)
        · have h := (if_pos c56).symm.trans h
          refine lv_iload_n hx hb dX3_neededHosts_59 rfl (lv_at hl 3 rfl) ?_
          refine lv_iconst (v := (1 : Int32)) hx hb dX3_neededHosts_60 k_iconst_1 ?_
          refine lv_iload_n hx hb dX3_neededHosts_61 rfl (lv_at hl 4 rfl) ?_
          refine lv_ishl hx hb dX3_neededHosts_62 ?_
          refine lv_ior hx hb dX3_neededHosts_63 ?_
          refine lv_istore_n (lv' := [(2, .int (x2 ||| ((1 : Int32) <<< (x3 &&& 31)))), (4, .int s0), (0, .ref (aY 0)), (1, .int x1), (3, .int x3)]) hx hb dX3_neededHosts_64 rfl hl (by decide) rfl (fun ls hl => ?_)
          exact j65 rc hrc o51.2 x1 (x2 ||| ((1 : Int32) <<< (x3 &&& 31))) x3 h _ _ _ hP hD hS (lv_sub hl [2, 3, 0, 4] rfl)
    intro n
    induction n with
    | zero => intro vY x1 x2 x3 h; exact nomatch (show (none : Option (Ob × Int32)) = some out from h)
    | succ n hrc =>
      intro vY x1 x2 x3 h H locs ls hP hD hS hl
      have h : m_X3_neededHosts_L9B vW vS (m_X3_neededHosts_L9 vW vS n) vY x1 x2 x3 = some out := h
      generalize m_X3_neededHosts_L9 vW vS n = rc at h hrc
      unfold m_X3_neededHosts_L9B at h
      refine lv_iload_n hx hb dX3_neededHosts_9 rfl (lv_at hl 3 rfl) ?_
      refine lv_aload_n hx hb dX3_neededHosts_10 rfl (lv_at hl 0 rfl) ?_
      refine va_get (D := G) (ci := 3) (v := .ref (aW 0)) (C := RX3) (T := TX3) (N := 14) hx hb hts fi_X3_neededHosts_X3 hown hEN.1 hP 0 rfl rfl 0 (by decide) (hts (.fieldLink RX3 21 "HourWell$Ways" "world" "LHourWell$World;") (List.mem_of_getElem? (i := 1) rfl)) (fun _ h9 => h9) rfl dX3_neededHosts_11 ?_
      refine va_get (D := G) (ci := 4) (v := .int (vW 0 2)) (C := RX4) (T := TX4) (N := 13) hx hb hts fi_X3_neededHosts_X4 hown hEN.1 hP 4 rfl rfl 2 (by decide) (hts (.fieldLink RX3 109 "HourWell$World" "hosts" "I") (List.mem_of_getElem? (i := 2) rfl)) (fun _ h9 => h9) rfl dX3_neededHosts_14 ?_
      refine lv_icmp_ge (tgt := 71) hx hb dX3_neededHosts_17 (by decide) (fun c17 => ?_) (fun c17 => ?_)
      · have h := (if_pos c17).symm.trans h
        exact hKx _ (Option.some.inj h).symm _ _ _ hP hD hS (lv_sub hl [2] rfl)
      · have h := (if_neg c17).symm.trans h
        refine lv_iload_n hx hb dX3_neededHosts_20 rfl (lv_at hl 1 rfl) ?_
        refine lv_bipush (v := (11 : Int32)) hx hb dX3_neededHosts_21 k_bipush_11 ?_
        refine lv_iload_n hx hb dX3_neededHosts_23 rfl (lv_at hl 3 rfl) ?_
        refine lv_iadd hx hb dX3_neededHosts_24 ?_
        refine lv_ishr hx hb dX3_neededHosts_25 ?_
        refine lv_iconst (v := (1 : Int32)) hx hb dX3_neededHosts_26 k_iconst_1 ?_
        refine lv_iand hx hb dX3_neededHosts_27 ?_
        refine lv_iconst (v := (1 : Int32)) hx hb dX3_neededHosts_28 k_iconst_1 ?_
        refine lv_icmp_ne (tgt := 36) hx hb dX3_neededHosts_29 (by decide) (fun c29 => ?_) (fun c29 => ?_)
        · have h := (if_neg c29).symm.trans h
          refine lv_iconst (v := (0 : Int32)) hx hb dX3_neededHosts_36 k_iconst_0 ?_
          exact j37 rc hrc vY x1 x2 x3 (0 : Int32) h _ _ _ hP hD hS (lv_sub hl [0, 1, 2, 3] rfl)
        · have h := (if_pos c29).symm.trans h
          refine lv_iconst (v := (1 : Int32)) hx hb dX3_neededHosts_32 k_iconst_1 ?_
          refine lv_goto (tgt := 37) hx hb dX3_neededHosts_33 (by decide) ?_
          exact j37 rc hrc vY x1 x2 x3 (1 : Int32) h _ _ _ hP hD hS (lv_sub hl [0, 1, 2, 3] rfl)
  unfold m_X3_neededHosts at h
  refine lv_aload_n hx hb dX3_neededHosts_0 rfl (lv_at hl 0 rfl) ?_
  obtain ⟨o1, ho1, h⟩ := bnd_some h
  refine call_V0 (As := []) (rest := []) ⟨hx, hb, hml, hown, hts⟩ (c_X3_usedSteps l G cI cZ aY aW aS vY o1 ho1) (cwV 0 hts gX3_neededHosts_X3_usedSteps rfl rfl rfl hdV_X3_usedSteps ⟨Nat.le_of_ble_eq_true rfl, Nat.le_of_ble_eq_true rfl⟩) hEN hA hP hD hS [0, 3] rfl (by decide) 0 rfl rfl rfl hl.1 rfl (Nat.le_of_ble_eq_true rfl) dX3_neededHosts_1 ⟨Nat.le_of_ble_eq_true rfl, Nat.le_of_ble_eq_true rfl⟩ (fun H locs hP hS => ?_)
  refine lv_istore_n (lv' := [(1, .int o1), (0, .ref (aY 0))]) hx hb dX3_neededHosts_4 rfl hl (by decide) rfl (fun ls hl => ?_)
  refine lv_iconst (v := (0 : Int32)) hx hb dX3_neededHosts_5 k_iconst_0 ?_
  refine lv_istore_n (lv' := [(2, .int (0 : Int32)), (1, .int o1), (0, .ref (aY 0))]) hx hb dX3_neededHosts_6 rfl hl (by decide) rfl (fun ls hl => ?_)
  refine lv_iconst (v := (0 : Int32)) hx hb dX3_neededHosts_7 k_iconst_0 ?_
  refine lv_istore_n (lv' := [(3, .int (0 : Int32)), (2, .int (0 : Int32)), (1, .int o1), (0, .ref (aY 0))]) hx hb dX3_neededHosts_8 rfl hl (by decide) rfl (fun ls hl => ?_)
  obtain ⟨o9_1, ho9_1, h⟩ := bnd_some h
  refine L9 o9_1 (fun o9_1e er H locs ls hP hD hS hl => ?_) FU vY o1 (0 : Int32) (0 : Int32) ho9_1 _ _ _ hP hD hS (lv_sub hl [3, 2, 1, 0] rfl)
  subst er
  refine lv_iload_n hx hb dX3_neededHosts_71 rfl (lv_at hl 0 rfl) ?_
  have hres := Option.some.inj h
  subst hres
  exact hRet 72 _ _ _ hP hD hS dX3_neededHosts_72
abbrev rm_X3_mostWaiting : Room := { frames := 5, cells := 0, slots := 0, locals := 121 }
theorem fi_X3_mostWaiting_X3 : ∀ w ∈ wsX30, w ∈ wsX3_mostWaiting := fun _ h => List.mem_cons_of_mem _ (List.mem_append_left _ (List.mem_append_left _ (List.mem_append_right _ h)))
theorem fi_X3_mostWaiting_X2 : ∀ w ∈ wsX20, w ∈ wsX3_mostWaiting := fun _ h => List.mem_cons_of_mem _ (List.mem_append_left _ (List.mem_append_right _ h))
theorem fi_X3_mostWaiting_X4 : ∀ w ∈ wsX40, w ∈ wsX3_mostWaiting := fun _ h => List.mem_cons_of_mem _ (List.mem_append_right _ h)
theorem hdV_X3_mostWaiting : yX3_mostWaiting.cls = RX3 ∧ yX3_mostWaiting.cls ≠ "java/lang/invoke/MethodHandle" ∧ yX3_mostWaiting.cls ≠ "java/lang/invoke/VarHandle" ∧ (parseMethodDescriptor yX3_mostWaiting.desc).map (fun d => d.parameters.length) = some 2 := by decide +kernel
set_option maxRecDepth 100000 in
set_option maxHeartbeats 4000000 in
theorem c_X3_mostWaiting (l : Launch) (G : va_G) (cI cZ : ClassId) (aY : Nat → Nat) (aW : Nat → Nat) (aS : Nat → Nat) (vY : Ob) (vW : Ob) (vS : Ob) (x1 : Int32) (x2 : Int32) (res : Int32 × Ob) (h : m_X3_mostWaiting vY vW vS x1 x2 = some res) : Ct l yX3_mostWaiting wsX3_mostWaiting rm_X3_mostWaiting G cI cZ [.ref (aY 0), .int x1, .int x2] [oX3 aY aW aS vY, ai cI (aY 3) 427 (vY 3), ai cI (aY 4) 7 (vY 4), ai cI (aY 5) 125 (vY 5), oX4 aW vW, ai cI (aW 5) 7 (vW 5), ai cI (aW 6) 7 (vW 6), ai cI (aW 7) 7 (vW 7), ai cI (aW 8) 9 (vW 8), ai cI (aW 9) 9 (vW 9), ai cI (aW 10) 9 (vW 10), ai cI (aW 11) 6 (vW 11), ai cI (aW 12) 6 (vW 12), ai cI (aW 13) 6 (vW 13), oX2 aS vS] (some (.int res.1)) [oX3 aY aW aS res.2, ai cI (aY 3) 427 (res.2 3), ai cI (aY 4) 7 (res.2 4), ai cI (aY 5) 125 (res.2 5), oX4 aW vW, ai cI (aW 5) 7 (vW 5), ai cI (aW 6) 7 (vW 6), ai cI (aW 7) 7 (vW 7), ai cI (aW 8) 9 (vW 8), ai cI (aW 9) 9 (vW 9), ai cI (aW 10) 9 (vW 10), ai cI (aW 11) 6 (vW 11), ai cI (aW 12) 6 (vW 12), ai cI (aW 13) 6 (vW 13), oX2 aS vS] := by
  refine Ct.of_i (maxL := 4) (by decide) rfl (Nat.le_of_ble_eq_true rfl) ?_
  intro p e s m below meth c args hx hb hml hown hts A hA hEN hP hD hS Q hRet ls hl
  have hown : s.vm.findClass RX3 = some m.cls := hown
  have hl : lv_has ls 4 [(0, .ref (aY 0)), (1, .int x1), (2, .int x2)] := hl
  have L8 : ∀ (out : (Int32 × Ob) ⊕ (Ob)), (∀ r : Int32 × Ob, out = Sum.inl r → r = res) → (∀ ex : Ob, out = Sum.inr ex → ∀ (H : Heap) (locs : List Loc) (ls : Array Slot), va_P G vwCl [oX3 aY aW aS ex, ai cI (aY 3) 427 (ex 3), ai cI (aY 4) 7 (ex 4), ai cI (aY 5) 125 (ex 5), oX4 aW vW, ai cI (aW 5) 7 (vW 5), ai cI (aW 6) 7 (vW 6), ai cI (aW 7) 7 (vW 7), ai cI (aW 8) 9 (vW 8), ai cI (aW 9) 9 (vW 9), ai cI (aW 10) 9 (vW 10), ai cI (aW 11) 6 (vW 11), ai cI (aW 12) 6 (vW 12), ai cI (aW 13) 6 (vW 13), oX2 aS vS] H → va_D A [oX3 aY aW aS ex, ai cI (aY 3) 427 (ex 3), ai cI (aY 4) 7 (ex 4), ai cI (aY 5) 125 (ex 5), oX4 aW vW, ai cI (aW 5) 7 (vW 5), ai cI (aW 6) 7 (vW 6), ai cI (aW 7) 7 (vW 7), ai cI (aW 8) 9 (vW 8), ai cI (aW 9) 9 (vW 9), ai cI (aW 10) 9 (vW 10), ai cI (aW 11) 6 (vW 11), ai cI (aW 12) 6 (vW 12), ai cI (aW 13) 6 (vW 13), oX2 aS vS] → va_S A s.heap H locs → lv_has ls 4 [] → W p l e rm_X3_mostWaiting s m args below meth c H locs 0 0 Q (F0 m 42 ls [])) → ∀ (n : Nat) (vY : Ob) (x3 : Int32), m_X3_mostWaiting_L8 vW vS n vY x3 = some out → ∀ (H : Heap) (locs : List Loc) (ls : Array Slot), va_P G vwCl [oX3 aY aW aS vY, ai cI (aY 3) 427 (vY 3), ai cI (aY 4) 7 (vY 4), ai cI (aY 5) 125 (vY 5), oX4 aW vW, ai cI (aW 5) 7 (vW 5), ai cI (aW 6) 7 (vW 6), ai cI (aW 7) 7 (vW 7), ai cI (aW 8) 9 (vW 8), ai cI (aW 9) 9 (vW 9), ai cI (aW 10) 9 (vW 10), ai cI (aW 11) 6 (vW 11), ai cI (aW 12) 6 (vW 12), ai cI (aW 13) 6 (vW 13), oX2 aS vS] H → va_D A [oX3 aY aW aS vY, ai cI (aY 3) 427 (vY 3), ai cI (aY 4) 7 (vY 4), ai cI (aY 5) 125 (vY 5), oX4 aW vW, ai cI (aW 5) 7 (vW 5), ai cI (aW 6) 7 (vW 6), ai cI (aW 7) 7 (vW 7), ai cI (aW 8) 9 (vW 8), ai cI (aW 9) 9 (vW 9), ai cI (aW 10) 9 (vW 10), ai cI (aW 11) 6 (vW 11), ai cI (aW 12) 6 (vW 12), ai cI (aW 13) 6 (vW 13), oX2 aS vS] → va_S A s.heap H locs → lv_has ls 4 [(0, .ref (aY 0)), (3, .int x3)] → W p l e rm_X3_mostWaiting s m args below meth c H locs 0 0 Q (F0 m 8 ls []) := by
    intro out hKr hKx
    intro n
    induction n with
    | zero => intro vY x3 h; exact nomatch (show (none : Option ((Int32 × Ob) ⊕ (Ob))) = some out from h)
    | succ n hrc =>
      intro vY x3 h H locs ls hP hD hS hl
      have h : m_X3_mostWaiting_L8B vW vS (m_X3_mostWaiting_L8 vW vS n) vY x3 = some out := h
      generalize m_X3_mostWaiting_L8 vW vS n = rc at h hrc
      unfold m_X3_mostWaiting_L8B at h
      refine lv_iload_n hx hb dX3_mostWaiting_8 rfl (lv_at hl 1 rfl) ?_
      refine lv_if_lt (tgt := 42) hx hb dX3_mostWaiting_9 (by decide) (fun c9 => ?_) (fun c9 => ?_)
      · have h := (if_pos c9).symm.trans h
        exact hKx _ (Option.some.inj h).symm _ _ _ hP hD hS (lv_sub hl [] rfl)
      · have h := (if_neg c9).symm.trans h
        refine lv_aload_n hx hb dX3_mostWaiting_12 rfl (lv_at hl 0 rfl) ?_
        refine lv_iload_n hx hb dX3_mostWaiting_13 rfl (lv_at hl 1 rfl) ?_
        refine lv_aload_n hx hb dX3_mostWaiting_14 rfl (lv_at hl 0 rfl) ?_
        refine va_get (D := G) (ci := 3) (v := .ref (aS 0)) (C := RX3) (T := TX3) (N := 14) hx hb hts fi_X3_mostWaiting_X3 hown hEN.1 hP 0 rfl rfl 1 (by decide) (hts (.fieldLink RX3 25 "HourWell$Ways" "son" "LHourWell$Son;") (List.mem_of_getElem? (i := 1) rfl)) (fun _ h9 => h9) rfl dX3_mostWaiting_15 ?_
        refine va_get (D := G) (ci := 2) (v := .int (vS 0 0)) (C := RX2) (T := TX2) (N := 8) hx hb hts fi_X3_mostWaiting_X2 hown hEN.1 hP 14 rfl rfl 0 (by decide) (hts (.fieldLink RX3 37 "HourWell$Son" "place" "I") (List.mem_of_getElem? (i := 2) rfl)) (fun _ h9 => h9) rfl dX3_mostWaiting_18 ?_
        refine lv_aload_n hx hb dX3_mostWaiting_21 rfl (lv_at hl 0 rfl) ?_
        refine va_get (D := G) (ci := 3) (v := .ref (aS 0)) (C := RX3) (T := TX3) (N := 14) hx hb hts fi_X3_mostWaiting_X3 hown hEN.1 hP 0 rfl rfl 1 (by decide) (hts (.fieldLink RX3 25 "HourWell$Ways" "son" "LHourWell$Son;") (List.mem_of_getElem? (i := 1) rfl)) (fun _ h9 => h9) rfl dX3_mostWaiting_22 ?_
        refine va_get (D := G) (ci := 2) (v := .int (vS 0 2)) (C := RX2) (T := TX2) (N := 8) hx hb hts fi_X3_mostWaiting_X2 hown hEN.1 hP 14 rfl rfl 2 (by decide) (hts (.fieldLink RX3 51 "HourWell$Son" "things" "I") (List.mem_of_getElem? (i := 3) rfl)) (fun _ h9 => h9) rfl dX3_mostWaiting_25 ?_
        obtain ⟨o28, ho28, h⟩ := bnd_some h
        refine call_V0 (As := [.int x3, .int (vS 0 0), .int (vS 0 2)]) (rest := []) ⟨hx, hb, hml, hown, hts⟩ (c_X3_canBeHome l G cI cZ aY aW aS vY x3 (vS 0 0) (vS 0 2) o28 ho28) (cwV 3 hts gX3_mostWaiting_X3_canBeHome rfl rfl rfl hdV_X3_canBeHome ⟨Nat.le_of_ble_eq_true rfl, Nat.le_of_ble_eq_true rfl⟩) hEN hA hP hD hS [0, 1] rfl (by decide) 0 rfl rfl rfl hl.1 rfl (Nat.le_of_ble_eq_true rfl) dX3_mostWaiting_28 ⟨Nat.le_of_ble_eq_true rfl, Nat.le_of_ble_eq_true rfl⟩ (fun H locs hP hS => ?_)
        refine lv_if_eq (tgt := 36) hx hb dX3_mostWaiting_31 (by decide) (fun c31 => ?_) (fun c31 => ?_)
        · have h := (if_pos c31).symm.trans h
          refine lv_iinc (v := (x3 + (-1 : Int32))) (lv' := [(3, .int (x3 + (-1 : Int32))), (0, .ref (aY 0))]) hx hb dX3_mostWaiting_36 hl (k := 1) rfl (congrArg (fun z => x3 + z) k_iconst_n1) (by decide) rfl (fun ls hl => ?_)
          refine lv_goto (tgt := 8) hx hb dX3_mostWaiting_39 (by decide) ?_
          exact hrc vY (x3 + (-1 : Int32)) h _ _ _ hP hD hS (lv_sub hl [1, 0] rfl)
        · have h := (if_neg c31).symm.trans h
          refine lv_iload_n hx hb dX3_mostWaiting_34 rfl (lv_at hl 1 rfl) ?_
          have hres := hKr _ (Option.some.inj h).symm
          subst hres
          exact hRet 35 _ _ _ hP hD hS dX3_mostWaiting_35
  unfold m_X3_mostWaiting at h
  refine lv_aload_n hx hb dX3_mostWaiting_0 rfl (lv_at hl 0 rfl) ?_
  refine lv_iload_n hx hb dX3_mostWaiting_1 rfl (lv_at hl 1 rfl) ?_
  refine lv_iload_n hx hb dX3_mostWaiting_2 rfl (lv_at hl 2 rfl) ?_
  obtain ⟨o3, ho3, h⟩ := bnd_some h
  refine call_VJ (wr := []) (As := [.int x1, .int x2]) (rest := []) ⟨hx, hb, hml, hown, hts⟩ (c_X3_fillBackward l G cI cZ aY aW aS vY vW vS x1 x2 o3 ho3) (cwV 2 hts gX3_mostWaiting_X3_fillBackward rfl rfl rfl hdV_X3_fillBackward ⟨Nat.le_of_ble_eq_true rfl, Nat.le_of_ble_eq_true rfl⟩) hEN hA hP hD hS [0, 1, 2, 3, 4, 5, 6, 7, 8, 9, 10, 11, 12, 13, 14] [] rfl (by decide) rfl (by decide) (by decide) 0 rfl rfl rfl hl.1 rfl (Nat.le_of_ble_eq_true rfl) dX3_mostWaiting_3 ⟨Nat.le_of_ble_eq_true rfl, Nat.le_of_ble_eq_true rfl⟩ (fun H locs hP hD hS => ?_)
  have hP : va_P G vwCl [oX3 aY aW aS o3, ai cI (aY 3) 427 (o3 3), ai cI (aY 4) 7 (o3 4), ai cI (aY 5) 125 (o3 5), oX4 aW vW, ai cI (aW 5) 7 (vW 5), ai cI (aW 6) 7 (vW 6), ai cI (aW 7) 7 (vW 7), ai cI (aW 8) 9 (vW 8), ai cI (aW 9) 9 (vW 9), ai cI (aW 10) 9 (vW 10), ai cI (aW 11) 6 (vW 11), ai cI (aW 12) 6 (vW 12), ai cI (aW 13) 6 (vW 13), oX2 aS vS] H := hP
  have hD : va_D A [oX3 aY aW aS o3, ai cI (aY 3) 427 (o3 3), ai cI (aY 4) 7 (o3 4), ai cI (aY 5) 125 (o3 5), oX4 aW vW, ai cI (aW 5) 7 (vW 5), ai cI (aW 6) 7 (vW 6), ai cI (aW 7) 7 (vW 7), ai cI (aW 8) 9 (vW 8), ai cI (aW 9) 9 (vW 9), ai cI (aW 10) 9 (vW 10), ai cI (aW 11) 6 (vW 11), ai cI (aW 12) 6 (vW 12), ai cI (aW 13) 6 (vW 13), oX2 aS vS] := hD
  refine lv_iload_n hx hb dX3_mostWaiting_6 rfl (lv_at hl 2 rfl) ?_
  refine lv_istore_n (lv' := [(3, .int x2), (0, .ref (aY 0)), (1, .int x1), (2, .int x2)]) hx hb dX3_mostWaiting_7 rfl hl (by decide) rfl (fun ls hl => ?_)
  obtain ⟨o8_1, ho8_1, h⟩ := bnd_some h
  refine L8 o8_1 (fun r er => ?_) (fun o8_1x er H locs ls hP hD hS hl => ?_) FU o3 x2 ho8_1 _ _ _ hP hD hS (lv_sub hl [1, 0] rfl)
  · subst er
    have h := (sm_l _ _ _).symm.trans h
    exact Option.some.inj h
  · subst er
    have h := (sm_r _ _ _).symm.trans h
    refine lv_bipush (v := (-9 : Int32)) hx hb dX3_mostWaiting_42 k_bipush_n9 ?_
    have hres := Option.some.inj h
    subst hres
    exact hRet 44 _ _ _ hP hD hS dX3_mostWaiting_44
