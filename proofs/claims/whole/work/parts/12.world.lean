abbrev rm_X4_forgetAll : Room := { frames := 0, cells := 0, slots := 0, locals := 0 }
theorem fi_X4_forgetAll_X4 : ∀ w ∈ wsX40, w ∈ wsX4_forgetAll := fun _ h => List.mem_cons_of_mem _ (List.mem_append_right _ h)
theorem hdV_X4_forgetAll : yX4_forgetAll.cls = RX4 ∧ yX4_forgetAll.cls ≠ "java/lang/invoke/MethodHandle" ∧ yX4_forgetAll.cls ≠ "java/lang/invoke/VarHandle" ∧ (parseMethodDescriptor yX4_forgetAll.desc).map (fun d => d.parameters.length) = some 0 := by decide +kernel
set_option maxRecDepth 100000 in
set_option maxHeartbeats 4000000 in
theorem c_X4_forgetAll (l : Launch) (G : va_G) (cI cZ : ClassId) (aW : Nat → Nat) (vW : Ob)  (res : Ob) (h : m_X4_forgetAll vW  = some res) : Ct l yX4_forgetAll wsX4_forgetAll rm_X4_forgetAll G cI cZ [.ref (aW 0)] [oX4 aW vW, ai cI (aW 5) 7 (vW 5), ai cI (aW 6) 7 (vW 6), ai cI (aW 7) 7 (vW 7), ai cI (aW 8) 9 (vW 8), ai cI (aW 9) 9 (vW 9), ai cI (aW 10) 9 (vW 10), ai cI (aW 11) 6 (vW 11), ai cI (aW 12) 6 (vW 12), ai cI (aW 13) 6 (vW 13)] none [oX4 aW res, ai cI (aW 5) 7 (res 5), ai cI (aW 6) 7 (res 6), ai cI (aW 7) 7 (res 7), ai cI (aW 8) 9 (res 8), ai cI (aW 9) 9 (res 9), ai cI (aW 10) 9 (res 10), ai cI (aW 11) 6 (res 11), ai cI (aW 12) 6 (res 12), ai cI (aW 13) 6 (res 13)] := by
  refine Ct.of_v (maxL := 1) (by decide) rfl (Nat.le_of_ble_eq_true rfl) ?_
  intro p e s m below meth c args hx hb hml hown hts A hA hEN hP hD hS Q hRet ls hl
  have hown : s.vm.findClass RX4 = some m.cls := hown
  have hl : lv_has ls 1 [(0, .ref (aW 0))] := hl
  unfold m_X4_forgetAll at h
  refine lv_aload_n hx hb dX4_forgetAll_0 rfl (lv_at hl 0 rfl) ?_
  refine lv_iconst (v := (0 : Int32)) hx hb dX4_forgetAll_1 k_iconst_0 ?_
  refine va_put (D := G) (ci := 4) (v := .int (0 : Int32)) (ty := .int) (C := RX4) (T := TX4) (N := 13) hx hb hts fi_X4_forgetAll_X4 tyX4 tyX4_ok nmX4 hown hEN.1 hP hD hS 0 rfl rfl 0 (by decide) (hts (.fieldLink RX4 39 "HourWell$World" "places" "I") (List.mem_of_getElem? (i := 1) rfl)) (fun _ h9 => h9) rfl (by decide +kernel) rfl rfl (Nat.le_of_ble_eq_true rfl) dX4_forgetAll_2 (fun H locs hP hD hS => ?_)
  have hP : va_P G vwCl [oX4 aW (st vW 0 0 (0 : Int32)), ai cI (aW 5) 7 (vW 5), ai cI (aW 6) 7 (vW 6), ai cI (aW 7) 7 (vW 7), ai cI (aW 8) 9 (vW 8), ai cI (aW 9) 9 (vW 9), ai cI (aW 10) 9 (vW 10), ai cI (aW 11) 6 (vW 11), ai cI (aW 12) 6 (vW 12), ai cI (aW 13) 6 (vW 13)] H := hP
  have hD : va_D A [oX4 aW (st vW 0 0 (0 : Int32)), ai cI (aW 5) 7 (vW 5), ai cI (aW 6) 7 (vW 6), ai cI (aW 7) 7 (vW 7), ai cI (aW 8) 9 (vW 8), ai cI (aW 9) 9 (vW 9), ai cI (aW 10) 9 (vW 10), ai cI (aW 11) 6 (vW 11), ai cI (aW 12) 6 (vW 12), ai cI (aW 13) 6 (vW 13)] := hD
  refine lv_aload_n hx hb dX4_forgetAll_5 rfl (lv_at hl 0 rfl) ?_
  refine lv_iconst (v := (0 : Int32)) hx hb dX4_forgetAll_6 k_iconst_0 ?_
  refine va_put (D := G) (ci := 4) (v := .int (0 : Int32)) (ty := .int) (C := RX4) (T := TX4) (N := 13) hx hb hts fi_X4_forgetAll_X4 tyX4 tyX4_ok nmX4 hown hEN.1 hP hD hS 0 rfl rfl 1 (by decide) (hts (.fieldLink RX4 43 "HourWell$World" "roads" "I") (List.mem_of_getElem? (i := 2) rfl)) (fun _ h9 => h9) rfl (by decide +kernel) rfl rfl (Nat.le_of_ble_eq_true rfl) dX4_forgetAll_7 (fun H locs hP hD hS => ?_)
  have hP : va_P G vwCl [oX4 aW (st (st vW 0 0 (0 : Int32)) 0 1 (0 : Int32)), ai cI (aW 5) 7 (vW 5), ai cI (aW 6) 7 (vW 6), ai cI (aW 7) 7 (vW 7), ai cI (aW 8) 9 (vW 8), ai cI (aW 9) 9 (vW 9), ai cI (aW 10) 9 (vW 10), ai cI (aW 11) 6 (vW 11), ai cI (aW 12) 6 (vW 12), ai cI (aW 13) 6 (vW 13)] H := hP
  have hD : va_D A [oX4 aW (st (st vW 0 0 (0 : Int32)) 0 1 (0 : Int32)), ai cI (aW 5) 7 (vW 5), ai cI (aW 6) 7 (vW 6), ai cI (aW 7) 7 (vW 7), ai cI (aW 8) 9 (vW 8), ai cI (aW 9) 9 (vW 9), ai cI (aW 10) 9 (vW 10), ai cI (aW 11) 6 (vW 11), ai cI (aW 12) 6 (vW 12), ai cI (aW 13) 6 (vW 13)] := hD
  refine lv_aload_n hx hb dX4_forgetAll_10 rfl (lv_at hl 0 rfl) ?_
  refine lv_iconst (v := (0 : Int32)) hx hb dX4_forgetAll_11 k_iconst_0 ?_
  refine va_put (D := G) (ci := 4) (v := .int (0 : Int32)) (ty := .int) (C := RX4) (T := TX4) (N := 13) hx hb hts fi_X4_forgetAll_X4 tyX4 tyX4_ok nmX4 hown hEN.1 hP hD hS 0 rfl rfl 2 (by decide) (hts (.fieldLink RX4 46 "HourWell$World" "hosts" "I") (List.mem_of_getElem? (i := 3) rfl)) (fun _ h9 => h9) rfl (by decide +kernel) rfl rfl (Nat.le_of_ble_eq_true rfl) dX4_forgetAll_12 (fun H locs hP hD hS => ?_)
  have hP : va_P G vwCl [oX4 aW (st (st (st vW 0 0 (0 : Int32)) 0 1 (0 : Int32)) 0 2 (0 : Int32)), ai cI (aW 5) 7 (vW 5), ai cI (aW 6) 7 (vW 6), ai cI (aW 7) 7 (vW 7), ai cI (aW 8) 9 (vW 8), ai cI (aW 9) 9 (vW 9), ai cI (aW 10) 9 (vW 10), ai cI (aW 11) 6 (vW 11), ai cI (aW 12) 6 (vW 12), ai cI (aW 13) 6 (vW 13)] H := hP
  have hD : va_D A [oX4 aW (st (st (st vW 0 0 (0 : Int32)) 0 1 (0 : Int32)) 0 2 (0 : Int32)), ai cI (aW 5) 7 (vW 5), ai cI (aW 6) 7 (vW 6), ai cI (aW 7) 7 (vW 7), ai cI (aW 8) 9 (vW 8), ai cI (aW 9) 9 (vW 9), ai cI (aW 10) 9 (vW 10), ai cI (aW 11) 6 (vW 11), ai cI (aW 12) 6 (vW 12), ai cI (aW 13) 6 (vW 13)] := hD
  refine lv_aload_n hx hb dX4_forgetAll_15 rfl (lv_at hl 0 rfl) ?_
  refine lv_iconst (v := (0 : Int32)) hx hb dX4_forgetAll_16 k_iconst_0 ?_
  refine va_put (D := G) (ci := 4) (v := .int (0 : Int32)) (ty := .int) (C := RX4) (T := TX4) (N := 13) hx hb hts fi_X4_forgetAll_X4 tyX4 tyX4_ok nmX4 hown hEN.1 hP hD hS 0 rfl rfl 3 (by decide) (hts (.fieldLink RX4 49 "HourWell$World" "off" "I") (List.mem_of_getElem? (i := 4) rfl)) (fun _ h9 => h9) rfl (by decide +kernel) rfl rfl (Nat.le_of_ble_eq_true rfl) dX4_forgetAll_17 (fun H locs hP hD hS => ?_)
  have hP : va_P G vwCl [oX4 aW (st (st (st (st vW 0 0 (0 : Int32)) 0 1 (0 : Int32)) 0 2 (0 : Int32)) 0 3 (0 : Int32)), ai cI (aW 5) 7 (vW 5), ai cI (aW 6) 7 (vW 6), ai cI (aW 7) 7 (vW 7), ai cI (aW 8) 9 (vW 8), ai cI (aW 9) 9 (vW 9), ai cI (aW 10) 9 (vW 10), ai cI (aW 11) 6 (vW 11), ai cI (aW 12) 6 (vW 12), ai cI (aW 13) 6 (vW 13)] H := hP
  have hD : va_D A [oX4 aW (st (st (st (st vW 0 0 (0 : Int32)) 0 1 (0 : Int32)) 0 2 (0 : Int32)) 0 3 (0 : Int32)), ai cI (aW 5) 7 (vW 5), ai cI (aW 6) 7 (vW 6), ai cI (aW 7) 7 (vW 7), ai cI (aW 8) 9 (vW 8), ai cI (aW 9) 9 (vW 9), ai cI (aW 10) 9 (vW 10), ai cI (aW 11) 6 (vW 11), ai cI (aW 12) 6 (vW 12), ai cI (aW 13) 6 (vW 13)] := hD
  have hres := Option.some.inj h
  subst hres
  exact hRet 20 _ _ _ hP hD hS dX4_forgetAll_20
abbrev rm_X4_hasPlace : Room := { frames := 0, cells := 0, slots := 0, locals := 0 }
theorem fi_X4_hasPlace_X4 : ∀ w ∈ wsX40, w ∈ wsX4_hasPlace := fun _ h => List.mem_cons_of_mem _ (List.mem_append_right _ h)
theorem hdV_X4_hasPlace : yX4_hasPlace.cls = RX4 ∧ yX4_hasPlace.cls ≠ "java/lang/invoke/MethodHandle" ∧ yX4_hasPlace.cls ≠ "java/lang/invoke/VarHandle" ∧ (parseMethodDescriptor yX4_hasPlace.desc).map (fun d => d.parameters.length) = some 1 := by decide +kernel
set_option maxRecDepth 100000 in
set_option maxHeartbeats 4000000 in
theorem c_X4_hasPlace (l : Launch) (G : va_G) (cI cZ : ClassId) (aW : Nat → Nat) (vW : Ob) (x1 : Int32) (res : Int32) (h : m_X4_hasPlace vW x1 = some res) : Ct l yX4_hasPlace wsX4_hasPlace rm_X4_hasPlace G cI cZ [.ref (aW 0), .int x1] [oX4 aW vW] (some (.int res)) [oX4 aW vW] := by
  refine Ct.of_z (maxL := 2) (by decide) rfl (Nat.le_of_ble_eq_true rfl) ?_
  intro p e s m below meth c args hx hb hml hown hts A hA hEN hP hD hS Q hRet ls hl
  have hown : s.vm.findClass RX4 = some m.cls := hown
  have hl : lv_has ls 2 [(0, .ref (aW 0)), (1, .int x1)] := hl
  unfold m_X4_hasPlace at h
  refine lv_iload_n hx hb dX4_hasPlace_0 rfl (lv_at hl 1 rfl) ?_
  refine lv_if_lt (tgt := 22) hx hb dX4_hasPlace_1 (by decide) (fun c1 => ?_) (fun c1 => ?_)
  · have h := (if_pos c1).symm.trans h
    refine lv_iconst (v := (0 : Int32)) hx hb dX4_hasPlace_22 k_iconst_0 ?_
    have hres := Option.some.inj h
    subst hres
    exact hRet 23 nz0 _ _ _ hP hD hS dX4_hasPlace_23
  · have h := (if_neg c1).symm.trans h
    refine lv_iload_n hx hb dX4_hasPlace_4 rfl (lv_at hl 1 rfl) ?_
    refine lv_aload_n hx hb dX4_hasPlace_5 rfl (lv_at hl 0 rfl) ?_
    refine va_get (D := G) (ci := 4) (v := .int (vW 0 0)) (C := RX4) (T := TX4) (N := 13) hx hb hts fi_X4_hasPlace_X4 hown hEN.1 hP 0 rfl rfl 0 (by decide) (hts (.fieldLink RX4 39 "HourWell$World" "places" "I") (List.mem_of_getElem? (i := 1) rfl)) (fun _ h9 => h9) rfl dX4_hasPlace_6 ?_
    refine lv_icmp_ge (tgt := 22) hx hb dX4_hasPlace_9 (by decide) (fun c9 => ?_) (fun c9 => ?_)
    · have h := (if_pos c9).symm.trans h
      refine lv_iconst (v := (0 : Int32)) hx hb dX4_hasPlace_22 k_iconst_0 ?_
      have hres := Option.some.inj h
      subst hres
      exact hRet 23 nz0 _ _ _ hP hD hS dX4_hasPlace_23
    · have h := (if_neg c9).symm.trans h
      refine lv_iload_n hx hb dX4_hasPlace_12 rfl (lv_at hl 1 rfl) ?_
      refine lv_bipush (v := (7 : Int32)) hx hb dX4_hasPlace_13 k_bipush_7 ?_
      refine lv_icmp_ge (tgt := 22) hx hb dX4_hasPlace_15 (by decide) (fun c15 => ?_) (fun c15 => ?_)
      · have h := (if_pos c15).symm.trans h
        refine lv_iconst (v := (0 : Int32)) hx hb dX4_hasPlace_22 k_iconst_0 ?_
        have hres := Option.some.inj h
        subst hres
        exact hRet 23 nz0 _ _ _ hP hD hS dX4_hasPlace_23
      · have h := (if_neg c15).symm.trans h
        refine lv_iconst (v := (1 : Int32)) hx hb dX4_hasPlace_18 k_iconst_1 ?_
        refine lv_goto (tgt := 23) hx hb dX4_hasPlace_19 (by decide) ?_
        have hres := Option.some.inj h
        subst hres
        exact hRet 23 nz1 _ _ _ hP hD hS dX4_hasPlace_23
abbrev rm_X4_addRoad : Room := { frames := 1, cells := 0, slots := 0, locals := 22 }
theorem fi_X4_addRoad_X4 : ∀ w ∈ wsX40, w ∈ wsX4_addRoad := fun _ h => List.mem_cons_of_mem _ (List.mem_append_right _ h)
theorem hdV_X4_addRoad : yX4_addRoad.cls = RX4 ∧ yX4_addRoad.cls ≠ "java/lang/invoke/MethodHandle" ∧ yX4_addRoad.cls ≠ "java/lang/invoke/VarHandle" ∧ (parseMethodDescriptor yX4_addRoad.desc).map (fun d => d.parameters.length) = some 3 := by decide +kernel
set_option maxRecDepth 100000 in
set_option maxHeartbeats 4000000 in
theorem c_X4_addRoad (l : Launch) (G : va_G) (cI cZ : ClassId) (aW : Nat → Nat) (vW : Ob) (x1 : Int32) (x2 : Int32) (x3 : Int32) (res : Int32 × Ob) (h : m_X4_addRoad vW x1 x2 x3 = some res) : Ct l yX4_addRoad wsX4_addRoad rm_X4_addRoad G cI cZ [.ref (aW 0), .int x1, .int x2, .int x3] [oX4 aW vW, ai cI (aW 5) 7 (vW 5), ai cI (aW 6) 7 (vW 6), ai cI (aW 7) 7 (vW 7), ai cI (aW 8) 9 (vW 8), ai cI (aW 9) 9 (vW 9), ai cI (aW 10) 9 (vW 10), ai cI (aW 11) 6 (vW 11), ai cI (aW 12) 6 (vW 12), ai cI (aW 13) 6 (vW 13)] (some (.int res.1)) [oX4 aW res.2, ai cI (aW 5) 7 (res.2 5), ai cI (aW 6) 7 (res.2 6), ai cI (aW 7) 7 (res.2 7), ai cI (aW 8) 9 (res.2 8), ai cI (aW 9) 9 (res.2 9), ai cI (aW 10) 9 (res.2 10), ai cI (aW 11) 6 (res.2 11), ai cI (aW 12) 6 (res.2 12), ai cI (aW 13) 6 (res.2 13)] := by
  refine Ct.of_z (maxL := 4) (by decide) rfl (Nat.le_of_ble_eq_true rfl) ?_
  intro p e s m below meth c args hx hb hml hown hts A hA hEN hP hD hS Q hRet ls hl
  have hown : s.vm.findClass RX4 = some m.cls := hown
  have hl : lv_has ls 4 [(0, .ref (aW 0)), (1, .int x1), (2, .int x2), (3, .int x3)] := hl
  unfold m_X4_addRoad at h
  refine lv_aload_n hx hb dX4_addRoad_0 rfl (lv_at hl 0 rfl) ?_
  refine va_get (D := G) (ci := 4) (v := .int (vW 0 1)) (C := RX4) (T := TX4) (N := 13) hx hb hts fi_X4_addRoad_X4 hown hEN.1 hP 0 rfl rfl 1 (by decide) (hts (.fieldLink RX4 43 "HourWell$World" "roads" "I") (List.mem_of_getElem? (i := 1) rfl)) (fun _ h9 => h9) rfl dX4_addRoad_1 ?_
  refine lv_iconst (v := (0 : Int32)) hx hb dX4_addRoad_4 k_iconst_0 ?_
  refine lv_bipush (v := (8 : Int32)) hx hb dX4_addRoad_5 k_bipush_8 ?_
  obtain ⟨o7, ho7, h⟩ := bnd_some h
  refine call_SN0 (As := [.int (vW 0 1), .int (0 : Int32), .int (8 : Int32)]) (rest := []) ⟨hx, hb, hml, hown, hts⟩ (c_X5_isWithin l G cI cZ  (vW 0 1) (0 : Int32) (8 : Int32) o7 ho7) ⟨va_cnB 3 hts gX4_addRoad_X5_isWithin_n58 rfl rfl rfl (hEN.2.1 _ (List.mem_of_getElem? (i := 9) rfl)) (hts (.initialized RX5) (List.mem_of_getElem? (i := 6) rfl)) hdS_X5_isWithin ⟨Nat.le_of_ble_eq_true rfl, Nat.le_of_ble_eq_true rfl⟩, hts (.static yX5_isWithin) (List.mem_of_getElem? (i := 5) rfl), trivial⟩ hEN hA hP hD hS [] rfl (by decide) rfl hl.1 rfl (Nat.le_of_ble_eq_true rfl) dX4_addRoad_7 ⟨Nat.le_of_ble_eq_true rfl, Nat.le_of_ble_eq_true rfl⟩ (fun H locs hP hS => ?_)
  refine lv_if_ne (tgt := 15) hx hb dX4_addRoad_10 (by decide) (fun c10 => ?_) (fun c10 => ?_)
  · have h := (if_neg c10).symm.trans h
    refine lv_aload_n hx hb dX4_addRoad_15 rfl (lv_at hl 0 rfl) ?_
    refine va_get (D := G) (ci := 4) (v := .ref (aW 8)) (C := RX4) (T := TX4) (N := 13) hx hb hts fi_X4_addRoad_X4 hown hEN.1 hP 0 rfl rfl 7 (by decide) (hts (.fieldLink RX4 21 "HourWell$World" "starts" "[I") (List.mem_of_getElem? (i := 2) rfl)) (fun _ h9 => h9) rfl dX4_addRoad_16 ?_
    refine lv_aload_n hx hb dX4_addRoad_19 rfl (lv_at hl 0 rfl) ?_
    refine va_get (D := G) (ci := 4) (v := .int (vW 0 1)) (C := RX4) (T := TX4) (N := 13) hx hb hts fi_X4_addRoad_X4 hown hEN.1 hP 0 rfl rfl 1 (by decide) (hts (.fieldLink RX4 43 "HourWell$World" "roads" "I") (List.mem_of_getElem? (i := 1) rfl)) (fun _ h9 => h9) rfl dX4_addRoad_20 ?_
    refine lv_iload_n hx hb dX4_addRoad_23 rfl (lv_at hl 1 rfl) ?_
    obtain ⟨hg24, h⟩ := grd_some h
    refine va_iast (f := (vW 8)) hx hb hEN.1 hP hD hS 4 0 rfl rfl (inb_in hg24) dX4_addRoad_24 (fun H locs hP hD hS => ?_)
    have hP : va_P G vwCl [oX4 aW vW, ai cI (aW 5) 7 (vW 5), ai cI (aW 6) 7 (vW 6), ai cI (aW 7) 7 (vW 7), ai cI (aW 8) 9 (upd (vW 8) (Int32.toNatClampNeg (vW 0 1)) x1), ai cI (aW 9) 9 (vW 9), ai cI (aW 10) 9 (vW 10), ai cI (aW 11) 6 (vW 11), ai cI (aW 12) 6 (vW 12), ai cI (aW 13) 6 (vW 13)] H := hP
    have hD : va_D A [oX4 aW vW, ai cI (aW 5) 7 (vW 5), ai cI (aW 6) 7 (vW 6), ai cI (aW 7) 7 (vW 7), ai cI (aW 8) 9 (upd (vW 8) (Int32.toNatClampNeg (vW 0 1)) x1), ai cI (aW 9) 9 (vW 9), ai cI (aW 10) 9 (vW 10), ai cI (aW 11) 6 (vW 11), ai cI (aW 12) 6 (vW 12), ai cI (aW 13) 6 (vW 13)] := hD
    refine lv_aload_n hx hb dX4_addRoad_25 rfl (lv_at hl 0 rfl) ?_
    refine va_get (D := G) (ci := 4) (v := .ref (aW 9)) (C := RX4) (T := TX4) (N := 13) hx hb hts fi_X4_addRoad_X4 hown hEN.1 hP 0 rfl rfl 8 (by decide) (hts (.fieldLink RX4 24 "HourWell$World" "ends" "[I") (List.mem_of_getElem? (i := 3) rfl)) (fun _ h9 => h9) rfl dX4_addRoad_26 ?_
    refine lv_aload_n hx hb dX4_addRoad_29 rfl (lv_at hl 0 rfl) ?_
    refine va_get (D := G) (ci := 4) (v := .int (vW 0 1)) (C := RX4) (T := TX4) (N := 13) hx hb hts fi_X4_addRoad_X4 hown hEN.1 hP 0 rfl rfl 1 (by decide) (hts (.fieldLink RX4 43 "HourWell$World" "roads" "I") (List.mem_of_getElem? (i := 1) rfl)) (fun _ h9 => h9) rfl dX4_addRoad_30 ?_
    refine lv_iload_n hx hb dX4_addRoad_33 rfl (lv_at hl 2 rfl) ?_
    obtain ⟨hg34, h⟩ := grd_some h
    refine va_iast (f := (vW 9)) hx hb hEN.1 hP hD hS 5 0 rfl rfl (inb_in hg34) dX4_addRoad_34 (fun H locs hP hD hS => ?_)
    have hP : va_P G vwCl [oX4 aW vW, ai cI (aW 5) 7 (vW 5), ai cI (aW 6) 7 (vW 6), ai cI (aW 7) 7 (vW 7), ai cI (aW 8) 9 (upd (vW 8) (Int32.toNatClampNeg (vW 0 1)) x1), ai cI (aW 9) 9 (upd (vW 9) (Int32.toNatClampNeg (vW 0 1)) x2), ai cI (aW 10) 9 (vW 10), ai cI (aW 11) 6 (vW 11), ai cI (aW 12) 6 (vW 12), ai cI (aW 13) 6 (vW 13)] H := hP
    have hD : va_D A [oX4 aW vW, ai cI (aW 5) 7 (vW 5), ai cI (aW 6) 7 (vW 6), ai cI (aW 7) 7 (vW 7), ai cI (aW 8) 9 (upd (vW 8) (Int32.toNatClampNeg (vW 0 1)) x1), ai cI (aW 9) 9 (upd (vW 9) (Int32.toNatClampNeg (vW 0 1)) x2), ai cI (aW 10) 9 (vW 10), ai cI (aW 11) 6 (vW 11), ai cI (aW 12) 6 (vW 12), ai cI (aW 13) 6 (vW 13)] := hD
    refine lv_aload_n hx hb dX4_addRoad_35 rfl (lv_at hl 0 rfl) ?_
    refine va_get (D := G) (ci := 4) (v := .ref (aW 10)) (C := RX4) (T := TX4) (N := 13) hx hb hts fi_X4_addRoad_X4 hown hEN.1 hP 0 rfl rfl 9 (by decide) (hts (.fieldLink RX4 27 "HourWell$World" "lengths" "[I") (List.mem_of_getElem? (i := 4) rfl)) (fun _ h9 => h9) rfl dX4_addRoad_36 ?_
    refine lv_aload_n hx hb dX4_addRoad_39 rfl (lv_at hl 0 rfl) ?_
    refine va_get (D := G) (ci := 4) (v := .int (vW 0 1)) (C := RX4) (T := TX4) (N := 13) hx hb hts fi_X4_addRoad_X4 hown hEN.1 hP 0 rfl rfl 1 (by decide) (hts (.fieldLink RX4 43 "HourWell$World" "roads" "I") (List.mem_of_getElem? (i := 1) rfl)) (fun _ h9 => h9) rfl dX4_addRoad_40 ?_
    refine lv_iload_n hx hb dX4_addRoad_43 rfl (lv_at hl 3 rfl) ?_
    obtain ⟨hg44, h⟩ := grd_some h
    refine va_iast (f := (vW 10)) hx hb hEN.1 hP hD hS 6 0 rfl rfl (inb_in hg44) dX4_addRoad_44 (fun H locs hP hD hS => ?_)
    have hP : va_P G vwCl [oX4 aW vW, ai cI (aW 5) 7 (vW 5), ai cI (aW 6) 7 (vW 6), ai cI (aW 7) 7 (vW 7), ai cI (aW 8) 9 (upd (vW 8) (Int32.toNatClampNeg (vW 0 1)) x1), ai cI (aW 9) 9 (upd (vW 9) (Int32.toNatClampNeg (vW 0 1)) x2), ai cI (aW 10) 9 (upd (vW 10) (Int32.toNatClampNeg (vW 0 1)) x3), ai cI (aW 11) 6 (vW 11), ai cI (aW 12) 6 (vW 12), ai cI (aW 13) 6 (vW 13)] H := hP
    have hD : va_D A [oX4 aW vW, ai cI (aW 5) 7 (vW 5), ai cI (aW 6) 7 (vW 6), ai cI (aW 7) 7 (vW 7), ai cI (aW 8) 9 (upd (vW 8) (Int32.toNatClampNeg (vW 0 1)) x1), ai cI (aW 9) 9 (upd (vW 9) (Int32.toNatClampNeg (vW 0 1)) x2), ai cI (aW 10) 9 (upd (vW 10) (Int32.toNatClampNeg (vW 0 1)) x3), ai cI (aW 11) 6 (vW 11), ai cI (aW 12) 6 (vW 12), ai cI (aW 13) 6 (vW 13)] := hD
    refine lv_aload_n hx hb dX4_addRoad_45 rfl (lv_at hl 0 rfl) ?_
    refine lv_dup hx hb dX4_addRoad_46 rfl ?_
    refine va_get (D := G) (ci := 4) (v := .int (vW 0 1)) (C := RX4) (T := TX4) (N := 13) hx hb hts fi_X4_addRoad_X4 hown hEN.1 hP 0 rfl rfl 1 (by decide) (hts (.fieldLink RX4 43 "HourWell$World" "roads" "I") (List.mem_of_getElem? (i := 1) rfl)) (fun _ h9 => h9) rfl dX4_addRoad_47 ?_
    refine lv_iconst (v := (1 : Int32)) hx hb dX4_addRoad_50 k_iconst_1 ?_
    refine lv_iadd hx hb dX4_addRoad_51 ?_
    refine va_put (D := G) (ci := 4) (v := .int ((vW 0 1) + (1 : Int32))) (ty := .int) (C := RX4) (T := TX4) (N := 13) hx hb hts fi_X4_addRoad_X4 tyX4 tyX4_ok nmX4 hown hEN.1 hP hD hS 0 rfl rfl 1 (by decide) (hts (.fieldLink RX4 43 "HourWell$World" "roads" "I") (List.mem_of_getElem? (i := 1) rfl)) (fun _ h9 => h9) rfl (by decide +kernel) rfl rfl (Nat.le_of_ble_eq_true rfl) dX4_addRoad_52 (fun H locs hP hD hS => ?_)
    have hP : va_P G vwCl [oX4 aW (st vW 0 1 ((vW 0 1) + (1 : Int32))), ai cI (aW 5) 7 (vW 5), ai cI (aW 6) 7 (vW 6), ai cI (aW 7) 7 (vW 7), ai cI (aW 8) 9 (upd (vW 8) (Int32.toNatClampNeg (vW 0 1)) x1), ai cI (aW 9) 9 (upd (vW 9) (Int32.toNatClampNeg (vW 0 1)) x2), ai cI (aW 10) 9 (upd (vW 10) (Int32.toNatClampNeg (vW 0 1)) x3), ai cI (aW 11) 6 (vW 11), ai cI (aW 12) 6 (vW 12), ai cI (aW 13) 6 (vW 13)] H := hP
    have hD : va_D A [oX4 aW (st vW 0 1 ((vW 0 1) + (1 : Int32))), ai cI (aW 5) 7 (vW 5), ai cI (aW 6) 7 (vW 6), ai cI (aW 7) 7 (vW 7), ai cI (aW 8) 9 (upd (vW 8) (Int32.toNatClampNeg (vW 0 1)) x1), ai cI (aW 9) 9 (upd (vW 9) (Int32.toNatClampNeg (vW 0 1)) x2), ai cI (aW 10) 9 (upd (vW 10) (Int32.toNatClampNeg (vW 0 1)) x3), ai cI (aW 11) 6 (vW 11), ai cI (aW 12) 6 (vW 12), ai cI (aW 13) 6 (vW 13)] := hD
    refine lv_iconst (v := (1 : Int32)) hx hb dX4_addRoad_55 k_iconst_1 ?_
    have hres := Option.some.inj h
    subst hres
    exact hRet 56 nz1 _ _ _ hP hD hS dX4_addRoad_56
  · have h := (if_pos c10).symm.trans h
    refine lv_iconst (v := (0 : Int32)) hx hb dX4_addRoad_13 k_iconst_0 ?_
    have hres := Option.some.inj h
    subst hres
    exact hRet 14 nz0 _ _ _ hP hD hS dX4_addRoad_14
abbrev rm_X4_addPlace : Room := { frames := 1, cells := 0, slots := 0, locals := 22 }
theorem fi_X4_addPlace_X4 : ∀ w ∈ wsX40, w ∈ wsX4_addPlace := fun _ h => List.mem_cons_of_mem _ (List.mem_append_right _ h)
theorem hdV_X4_addPlace : yX4_addPlace.cls = RX4 ∧ yX4_addPlace.cls ≠ "java/lang/invoke/MethodHandle" ∧ yX4_addPlace.cls ≠ "java/lang/invoke/VarHandle" ∧ (parseMethodDescriptor yX4_addPlace.desc).map (fun d => d.parameters.length) = some 0 := by decide +kernel
set_option maxRecDepth 100000 in
set_option maxHeartbeats 4000000 in
theorem c_X4_addPlace (l : Launch) (G : va_G) (cI cZ : ClassId) (aW : Nat → Nat) (vW : Ob)  (res : Int32 × Ob) (h : m_X4_addPlace vW  = some res) : Ct l yX4_addPlace wsX4_addPlace rm_X4_addPlace G cI cZ [.ref (aW 0)] [oX4 aW vW, ai cI (aW 5) 7 (vW 5), ai cI (aW 6) 7 (vW 6), ai cI (aW 7) 7 (vW 7), ai cI (aW 8) 9 (vW 8), ai cI (aW 9) 9 (vW 9), ai cI (aW 10) 9 (vW 10), ai cI (aW 11) 6 (vW 11), ai cI (aW 12) 6 (vW 12), ai cI (aW 13) 6 (vW 13)] (some (.int res.1)) [oX4 aW res.2, ai cI (aW 5) 7 (res.2 5), ai cI (aW 6) 7 (res.2 6), ai cI (aW 7) 7 (res.2 7), ai cI (aW 8) 9 (res.2 8), ai cI (aW 9) 9 (res.2 9), ai cI (aW 10) 9 (res.2 10), ai cI (aW 11) 6 (res.2 11), ai cI (aW 12) 6 (res.2 12), ai cI (aW 13) 6 (res.2 13)] := by
  refine Ct.of_z (maxL := 1) (by decide) rfl (Nat.le_of_ble_eq_true rfl) ?_
  intro p e s m below meth c args hx hb hml hown hts A hA hEN hP hD hS Q hRet ls hl
  have hown : s.vm.findClass RX4 = some m.cls := hown
  have hl : lv_has ls 1 [(0, .ref (aW 0))] := hl
  unfold m_X4_addPlace at h
  refine lv_aload_n hx hb dX4_addPlace_0 rfl (lv_at hl 0 rfl) ?_
  refine va_get (D := G) (ci := 4) (v := .int (vW 0 0)) (C := RX4) (T := TX4) (N := 13) hx hb hts fi_X4_addPlace_X4 hown hEN.1 hP 0 rfl rfl 0 (by decide) (hts (.fieldLink RX4 39 "HourWell$World" "places" "I") (List.mem_of_getElem? (i := 1) rfl)) (fun _ h9 => h9) rfl dX4_addPlace_1 ?_
  refine lv_iconst (v := (0 : Int32)) hx hb dX4_addPlace_4 k_iconst_0 ?_
  refine lv_bipush (v := (6 : Int32)) hx hb dX4_addPlace_5 k_bipush_6 ?_
  obtain ⟨o7, ho7, h⟩ := bnd_some h
  refine call_SN0 (As := [.int (vW 0 0), .int (0 : Int32), .int (6 : Int32)]) (rest := []) ⟨hx, hb, hml, hown, hts⟩ (c_X5_isWithin l G cI cZ  (vW 0 0) (0 : Int32) (6 : Int32) o7 ho7) ⟨va_cnB 3 hts gX4_addPlace_X5_isWithin_n58 rfl rfl rfl (hEN.2.1 _ (List.mem_of_getElem? (i := 9) rfl)) (hts (.initialized RX5) (List.mem_of_getElem? (i := 6) rfl)) hdS_X5_isWithin ⟨Nat.le_of_ble_eq_true rfl, Nat.le_of_ble_eq_true rfl⟩, hts (.static yX5_isWithin) (List.mem_of_getElem? (i := 5) rfl), trivial⟩ hEN hA hP hD hS [] rfl (by decide) rfl hl.1 rfl (Nat.le_of_ble_eq_true rfl) dX4_addPlace_7 ⟨Nat.le_of_ble_eq_true rfl, Nat.le_of_ble_eq_true rfl⟩ (fun H locs hP hS => ?_)
  refine lv_if_ne (tgt := 15) hx hb dX4_addPlace_10 (by decide) (fun c10 => ?_) (fun c10 => ?_)
  · have h := (if_neg c10).symm.trans h
    refine lv_aload_n hx hb dX4_addPlace_15 rfl (lv_at hl 0 rfl) ?_
    refine va_get (D := G) (ci := 4) (v := .ref (aW 5)) (C := RX4) (T := TX4) (N := 13) hx hb hts fi_X4_addPlace_X4 hown hEN.1 hP 0 rfl rfl 4 (by decide) (hts (.fieldLink RX4 9 "HourWell$World" "lions" "[I") (List.mem_of_getElem? (i := 2) rfl)) (fun _ h9 => h9) rfl dX4_addPlace_16 ?_
    refine lv_aload_n hx hb dX4_addPlace_19 rfl (lv_at hl 0 rfl) ?_
    refine va_get (D := G) (ci := 4) (v := .int (vW 0 0)) (C := RX4) (T := TX4) (N := 13) hx hb hts fi_X4_addPlace_X4 hown hEN.1 hP 0 rfl rfl 0 (by decide) (hts (.fieldLink RX4 39 "HourWell$World" "places" "I") (List.mem_of_getElem? (i := 1) rfl)) (fun _ h9 => h9) rfl dX4_addPlace_20 ?_
    refine lv_bipush (v := (9 : Int32)) hx hb dX4_addPlace_23 k_bipush_9 ?_
    obtain ⟨hg25, h⟩ := grd_some h
    refine va_iast (f := (vW 5)) hx hb hEN.1 hP hD hS 1 0 rfl rfl (inb_in hg25) dX4_addPlace_25 (fun H locs hP hD hS => ?_)
    have hP : va_P G vwCl [oX4 aW vW, ai cI (aW 5) 7 (upd (vW 5) (Int32.toNatClampNeg (vW 0 0)) (9 : Int32)), ai cI (aW 6) 7 (vW 6), ai cI (aW 7) 7 (vW 7), ai cI (aW 8) 9 (vW 8), ai cI (aW 9) 9 (vW 9), ai cI (aW 10) 9 (vW 10), ai cI (aW 11) 6 (vW 11), ai cI (aW 12) 6 (vW 12), ai cI (aW 13) 6 (vW 13)] H := hP
    have hD : va_D A [oX4 aW vW, ai cI (aW 5) 7 (upd (vW 5) (Int32.toNatClampNeg (vW 0 0)) (9 : Int32)), ai cI (aW 6) 7 (vW 6), ai cI (aW 7) 7 (vW 7), ai cI (aW 8) 9 (vW 8), ai cI (aW 9) 9 (vW 9), ai cI (aW 10) 9 (vW 10), ai cI (aW 11) 6 (vW 11), ai cI (aW 12) 6 (vW 12), ai cI (aW 13) 6 (vW 13)] := hD
    refine lv_aload_n hx hb dX4_addPlace_26 rfl (lv_at hl 0 rfl) ?_
    refine va_get (D := G) (ci := 4) (v := .ref (aW 6)) (C := RX4) (T := TX4) (N := 13) hx hb hts fi_X4_addPlace_X4 hown hEN.1 hP 0 rfl rfl 5 (by decide) (hts (.fieldLink RX4 15 "HourWell$World" "gateFrom" "[I") (List.mem_of_getElem? (i := 3) rfl)) (fun _ h9 => h9) rfl dX4_addPlace_27 ?_
    refine lv_aload_n hx hb dX4_addPlace_30 rfl (lv_at hl 0 rfl) ?_
    refine va_get (D := G) (ci := 4) (v := .int (vW 0 0)) (C := RX4) (T := TX4) (N := 13) hx hb hts fi_X4_addPlace_X4 hown hEN.1 hP 0 rfl rfl 0 (by decide) (hts (.fieldLink RX4 39 "HourWell$World" "places" "I") (List.mem_of_getElem? (i := 1) rfl)) (fun _ h9 => h9) rfl dX4_addPlace_31 ?_
    refine lv_bipush (v := (-9 : Int32)) hx hb dX4_addPlace_34 k_bipush_n9 ?_
    obtain ⟨hg36, h⟩ := grd_some h
    refine va_iast (f := (vW 6)) hx hb hEN.1 hP hD hS 2 0 rfl rfl (inb_in hg36) dX4_addPlace_36 (fun H locs hP hD hS => ?_)
    have hP : va_P G vwCl [oX4 aW vW, ai cI (aW 5) 7 (upd (vW 5) (Int32.toNatClampNeg (vW 0 0)) (9 : Int32)), ai cI (aW 6) 7 (upd (vW 6) (Int32.toNatClampNeg (vW 0 0)) (-9 : Int32)), ai cI (aW 7) 7 (vW 7), ai cI (aW 8) 9 (vW 8), ai cI (aW 9) 9 (vW 9), ai cI (aW 10) 9 (vW 10), ai cI (aW 11) 6 (vW 11), ai cI (aW 12) 6 (vW 12), ai cI (aW 13) 6 (vW 13)] H := hP
    have hD : va_D A [oX4 aW vW, ai cI (aW 5) 7 (upd (vW 5) (Int32.toNatClampNeg (vW 0 0)) (9 : Int32)), ai cI (aW 6) 7 (upd (vW 6) (Int32.toNatClampNeg (vW 0 0)) (-9 : Int32)), ai cI (aW 7) 7 (vW 7), ai cI (aW 8) 9 (vW 8), ai cI (aW 9) 9 (vW 9), ai cI (aW 10) 9 (vW 10), ai cI (aW 11) 6 (vW 11), ai cI (aW 12) 6 (vW 12), ai cI (aW 13) 6 (vW 13)] := hD
    refine lv_aload_n hx hb dX4_addPlace_37 rfl (lv_at hl 0 rfl) ?_
    refine va_get (D := G) (ci := 4) (v := .ref (aW 7)) (C := RX4) (T := TX4) (N := 13) hx hb hts fi_X4_addPlace_X4 hown hEN.1 hP 0 rfl rfl 6 (by decide) (hts (.fieldLink RX4 18 "HourWell$World" "gateHours" "[I") (List.mem_of_getElem? (i := 4) rfl)) (fun _ h9 => h9) rfl dX4_addPlace_38 ?_
    refine lv_aload_n hx hb dX4_addPlace_41 rfl (lv_at hl 0 rfl) ?_
    refine va_get (D := G) (ci := 4) (v := .int (vW 0 0)) (C := RX4) (T := TX4) (N := 13) hx hb hts fi_X4_addPlace_X4 hown hEN.1 hP 0 rfl rfl 0 (by decide) (hts (.fieldLink RX4 39 "HourWell$World" "places" "I") (List.mem_of_getElem? (i := 1) rfl)) (fun _ h9 => h9) rfl dX4_addPlace_42 ?_
    refine lv_bipush (v := (24 : Int32)) hx hb dX4_addPlace_45 k_bipush_24 ?_
    obtain ⟨hg47, h⟩ := grd_some h
    refine va_iast (f := (vW 7)) hx hb hEN.1 hP hD hS 3 0 rfl rfl (inb_in hg47) dX4_addPlace_47 (fun H locs hP hD hS => ?_)
    have hP : va_P G vwCl [oX4 aW vW, ai cI (aW 5) 7 (upd (vW 5) (Int32.toNatClampNeg (vW 0 0)) (9 : Int32)), ai cI (aW 6) 7 (upd (vW 6) (Int32.toNatClampNeg (vW 0 0)) (-9 : Int32)), ai cI (aW 7) 7 (upd (vW 7) (Int32.toNatClampNeg (vW 0 0)) (24 : Int32)), ai cI (aW 8) 9 (vW 8), ai cI (aW 9) 9 (vW 9), ai cI (aW 10) 9 (vW 10), ai cI (aW 11) 6 (vW 11), ai cI (aW 12) 6 (vW 12), ai cI (aW 13) 6 (vW 13)] H := hP
    have hD : va_D A [oX4 aW vW, ai cI (aW 5) 7 (upd (vW 5) (Int32.toNatClampNeg (vW 0 0)) (9 : Int32)), ai cI (aW 6) 7 (upd (vW 6) (Int32.toNatClampNeg (vW 0 0)) (-9 : Int32)), ai cI (aW 7) 7 (upd (vW 7) (Int32.toNatClampNeg (vW 0 0)) (24 : Int32)), ai cI (aW 8) 9 (vW 8), ai cI (aW 9) 9 (vW 9), ai cI (aW 10) 9 (vW 10), ai cI (aW 11) 6 (vW 11), ai cI (aW 12) 6 (vW 12), ai cI (aW 13) 6 (vW 13)] := hD
    refine lv_aload_n hx hb dX4_addPlace_48 rfl (lv_at hl 0 rfl) ?_
    refine lv_dup hx hb dX4_addPlace_49 rfl ?_
    refine va_get (D := G) (ci := 4) (v := .int (vW 0 0)) (C := RX4) (T := TX4) (N := 13) hx hb hts fi_X4_addPlace_X4 hown hEN.1 hP 0 rfl rfl 0 (by decide) (hts (.fieldLink RX4 39 "HourWell$World" "places" "I") (List.mem_of_getElem? (i := 1) rfl)) (fun _ h9 => h9) rfl dX4_addPlace_50 ?_
    refine lv_iconst (v := (1 : Int32)) hx hb dX4_addPlace_53 k_iconst_1 ?_
    refine lv_iadd hx hb dX4_addPlace_54 ?_
    refine va_put (D := G) (ci := 4) (v := .int ((vW 0 0) + (1 : Int32))) (ty := .int) (C := RX4) (T := TX4) (N := 13) hx hb hts fi_X4_addPlace_X4 tyX4 tyX4_ok nmX4 hown hEN.1 hP hD hS 0 rfl rfl 0 (by decide) (hts (.fieldLink RX4 39 "HourWell$World" "places" "I") (List.mem_of_getElem? (i := 1) rfl)) (fun _ h9 => h9) rfl (by decide +kernel) rfl rfl (Nat.le_of_ble_eq_true rfl) dX4_addPlace_55 (fun H locs hP hD hS => ?_)
    have hP : va_P G vwCl [oX4 aW (st vW 0 0 ((vW 0 0) + (1 : Int32))), ai cI (aW 5) 7 (upd (vW 5) (Int32.toNatClampNeg (vW 0 0)) (9 : Int32)), ai cI (aW 6) 7 (upd (vW 6) (Int32.toNatClampNeg (vW 0 0)) (-9 : Int32)), ai cI (aW 7) 7 (upd (vW 7) (Int32.toNatClampNeg (vW 0 0)) (24 : Int32)), ai cI (aW 8) 9 (vW 8), ai cI (aW 9) 9 (vW 9), ai cI (aW 10) 9 (vW 10), ai cI (aW 11) 6 (vW 11), ai cI (aW 12) 6 (vW 12), ai cI (aW 13) 6 (vW 13)] H := hP
    have hD : va_D A [oX4 aW (st vW 0 0 ((vW 0 0) + (1 : Int32))), ai cI (aW 5) 7 (upd (vW 5) (Int32.toNatClampNeg (vW 0 0)) (9 : Int32)), ai cI (aW 6) 7 (upd (vW 6) (Int32.toNatClampNeg (vW 0 0)) (-9 : Int32)), ai cI (aW 7) 7 (upd (vW 7) (Int32.toNatClampNeg (vW 0 0)) (24 : Int32)), ai cI (aW 8) 9 (vW 8), ai cI (aW 9) 9 (vW 9), ai cI (aW 10) 9 (vW 10), ai cI (aW 11) 6 (vW 11), ai cI (aW 12) 6 (vW 12), ai cI (aW 13) 6 (vW 13)] := hD
    refine lv_iconst (v := (1 : Int32)) hx hb dX4_addPlace_58 k_iconst_1 ?_
    have hres := Option.some.inj h
    subst hres
    exact hRet 59 nz1 _ _ _ hP hD hS dX4_addPlace_59
  · have h := (if_pos c10).symm.trans h
    refine lv_iconst (v := (0 : Int32)) hx hb dX4_addPlace_13 k_iconst_0 ?_
    have hres := Option.some.inj h
    subst hres
    exact hRet 14 nz0 _ _ _ hP hD hS dX4_addPlace_14
abbrev rm_X4_lionAt : Room := { frames := 1, cells := 0, slots := 0, locals := 21 }
theorem fi_X4_lionAt_X4 : ∀ w ∈ wsX40, w ∈ wsX4_lionAt := fun _ h => List.mem_cons_of_mem _ (List.mem_append_right _ h)
theorem hdV_X4_lionAt : yX4_lionAt.cls = RX4 ∧ yX4_lionAt.cls ≠ "java/lang/invoke/MethodHandle" ∧ yX4_lionAt.cls ≠ "java/lang/invoke/VarHandle" ∧ (parseMethodDescriptor yX4_lionAt.desc).map (fun d => d.parameters.length) = some 1 := by decide +kernel
set_option maxRecDepth 100000 in
set_option maxHeartbeats 4000000 in
theorem c_X4_lionAt (l : Launch) (G : va_G) (cI cZ : ClassId) (aW : Nat → Nat) (vW : Ob) (x1 : Int32) (res : Int32) (h : m_X4_lionAt vW x1 = some res) : Ct l yX4_lionAt wsX4_lionAt rm_X4_lionAt G cI cZ [.ref (aW 0), .int x1] [oX4 aW vW, ai cI (aW 5) 7 (vW 5)] (some (.int res)) [oX4 aW vW, ai cI (aW 5) 7 (vW 5)] := by
  refine Ct.of_i (maxL := 2) (by decide) rfl (Nat.le_of_ble_eq_true rfl) ?_
  intro p e s m below meth c args hx hb hml hown hts A hA hEN hP hD hS Q hRet ls hl
  have hown : s.vm.findClass RX4 = some m.cls := hown
  have hl : lv_has ls 2 [(0, .ref (aW 0)), (1, .int x1)] := hl
  unfold m_X4_lionAt at h
  refine lv_aload_n hx hb dX4_lionAt_0 rfl (lv_at hl 0 rfl) ?_
  refine lv_iload_n hx hb dX4_lionAt_1 rfl (lv_at hl 1 rfl) ?_
  obtain ⟨o2, ho2, h⟩ := bnd_some h
  refine call_V0 (As := [.int x1]) (rest := []) ⟨hx, hb, hml, hown, hts⟩ (c_X4_hasPlace l G cI cZ aW vW x1 o2 ho2) (cwV 1 hts gX4_lionAt_X4_hasPlace rfl rfl rfl hdV_X4_hasPlace ⟨Nat.le_of_ble_eq_true rfl, Nat.le_of_ble_eq_true rfl⟩) hEN hA hP hD hS [0] rfl (by decide) 0 rfl rfl rfl hl.1 rfl (Nat.le_of_ble_eq_true rfl) dX4_lionAt_2 ⟨Nat.le_of_ble_eq_true rfl, Nat.le_of_ble_eq_true rfl⟩ (fun H locs hP hS => ?_)
  refine lv_if_eq (tgt := 17) hx hb dX4_lionAt_5 (by decide) (fun c5 => ?_) (fun c5 => ?_)
  · have h := (if_pos c5).symm.trans h
    refine lv_bipush (v := (9 : Int32)) hx hb dX4_lionAt_17 k_bipush_9 ?_
    have hres := Option.some.inj h
    subst hres
    exact hRet 19 _ _ _ hP hD hS dX4_lionAt_19
  · have h := (if_neg c5).symm.trans h
    refine lv_aload_n hx hb dX4_lionAt_8 rfl (lv_at hl 0 rfl) ?_
    refine va_get (D := G) (ci := 4) (v := .ref (aW 5)) (C := RX4) (T := TX4) (N := 13) hx hb hts fi_X4_lionAt_X4 hown hEN.1 hP 0 rfl rfl 4 (by decide) (hts (.fieldLink RX4 9 "HourWell$World" "lions" "[I") (List.mem_of_getElem? (i := 1) rfl)) (fun _ h9 => h9) rfl dX4_lionAt_9 ?_
    refine lv_iload_n hx hb dX4_lionAt_12 rfl (lv_at hl 1 rfl) ?_
    obtain ⟨hg13, h⟩ := grd_some h
    refine va_iald (f := (vW 5)) hx hb hEN.1 hP 1 0 rfl rfl (inb_in hg13) dX4_lionAt_13 ?_
    refine lv_goto (tgt := 19) hx hb dX4_lionAt_14 (by decide) ?_
    have hres := Option.some.inj h
    subst hres
    exact hRet 19 _ _ _ hP hD hS dX4_lionAt_19
abbrev rm_X4_addLion : Room := { frames := 1, cells := 0, slots := 0, locals := 21 }
theorem fi_X4_addLion_X4 : ∀ w ∈ wsX40, w ∈ wsX4_addLion := fun _ h => List.mem_cons_of_mem _ (List.mem_append_right _ h)
theorem hdV_X4_addLion : yX4_addLion.cls = RX4 ∧ yX4_addLion.cls ≠ "java/lang/invoke/MethodHandle" ∧ yX4_addLion.cls ≠ "java/lang/invoke/VarHandle" ∧ (parseMethodDescriptor yX4_addLion.desc).map (fun d => d.parameters.length) = some 2 := by decide +kernel
set_option maxRecDepth 100000 in
set_option maxHeartbeats 4000000 in
theorem c_X4_addLion (l : Launch) (G : va_G) (cI cZ : ClassId) (aW : Nat → Nat) (vW : Ob) (x1 : Int32) (x2 : Int32) (res : Int32 × Ob) (h : m_X4_addLion vW x1 x2 = some res) : Ct l yX4_addLion wsX4_addLion rm_X4_addLion G cI cZ [.ref (aW 0), .int x1, .int x2] [oX4 aW vW, ai cI (aW 5) 7 (vW 5), ai cI (aW 6) 7 (vW 6), ai cI (aW 7) 7 (vW 7), ai cI (aW 8) 9 (vW 8), ai cI (aW 9) 9 (vW 9), ai cI (aW 10) 9 (vW 10), ai cI (aW 11) 6 (vW 11), ai cI (aW 12) 6 (vW 12), ai cI (aW 13) 6 (vW 13)] (some (.int res.1)) [oX4 aW res.2, ai cI (aW 5) 7 (res.2 5), ai cI (aW 6) 7 (res.2 6), ai cI (aW 7) 7 (res.2 7), ai cI (aW 8) 9 (res.2 8), ai cI (aW 9) 9 (res.2 9), ai cI (aW 10) 9 (res.2 10), ai cI (aW 11) 6 (res.2 11), ai cI (aW 12) 6 (res.2 12), ai cI (aW 13) 6 (res.2 13)] := by
  refine Ct.of_z (maxL := 3) (by decide) rfl (Nat.le_of_ble_eq_true rfl) ?_
  intro p e s m below meth c args hx hb hml hown hts A hA hEN hP hD hS Q hRet ls hl
  have hown : s.vm.findClass RX4 = some m.cls := hown
  have hl : lv_has ls 3 [(0, .ref (aW 0)), (1, .int x1), (2, .int x2)] := hl
  unfold m_X4_addLion at h
  refine lv_aload_n hx hb dX4_addLion_0 rfl (lv_at hl 0 rfl) ?_
  refine lv_iload_n hx hb dX4_addLion_1 rfl (lv_at hl 1 rfl) ?_
  obtain ⟨o2, ho2, h⟩ := bnd_some h
  refine call_V0 (As := [.int x1]) (rest := []) ⟨hx, hb, hml, hown, hts⟩ (c_X4_hasPlace l G cI cZ aW vW x1 o2 ho2) (cwV 1 hts gX4_addLion_X4_hasPlace rfl rfl rfl hdV_X4_hasPlace ⟨Nat.le_of_ble_eq_true rfl, Nat.le_of_ble_eq_true rfl⟩) hEN hA hP hD hS [0] rfl (by decide) 0 rfl rfl rfl hl.1 rfl (Nat.le_of_ble_eq_true rfl) dX4_addLion_2 ⟨Nat.le_of_ble_eq_true rfl, Nat.le_of_ble_eq_true rfl⟩ (fun H locs hP hS => ?_)
  refine lv_if_ne (tgt := 10) hx hb dX4_addLion_5 (by decide) (fun c5 => ?_) (fun c5 => ?_)
  · have h := (if_neg c5).symm.trans h
    refine lv_aload_n hx hb dX4_addLion_10 rfl (lv_at hl 0 rfl) ?_
    refine va_get (D := G) (ci := 4) (v := .ref (aW 5)) (C := RX4) (T := TX4) (N := 13) hx hb hts fi_X4_addLion_X4 hown hEN.1 hP 0 rfl rfl 4 (by decide) (hts (.fieldLink RX4 9 "HourWell$World" "lions" "[I") (List.mem_of_getElem? (i := 1) rfl)) (fun _ h9 => h9) rfl dX4_addLion_11 ?_
    refine lv_iload_n hx hb dX4_addLion_14 rfl (lv_at hl 1 rfl) ?_
    refine lv_iload_n hx hb dX4_addLion_15 rfl (lv_at hl 2 rfl) ?_
    obtain ⟨hg16, h⟩ := grd_some h
    refine va_iast (f := (vW 5)) hx hb hEN.1 hP hD hS 1 0 rfl rfl (inb_in hg16) dX4_addLion_16 (fun H locs hP hD hS => ?_)
    have hP : va_P G vwCl [oX4 aW vW, ai cI (aW 5) 7 (upd (vW 5) (Int32.toNatClampNeg x1) x2), ai cI (aW 6) 7 (vW 6), ai cI (aW 7) 7 (vW 7), ai cI (aW 8) 9 (vW 8), ai cI (aW 9) 9 (vW 9), ai cI (aW 10) 9 (vW 10), ai cI (aW 11) 6 (vW 11), ai cI (aW 12) 6 (vW 12), ai cI (aW 13) 6 (vW 13)] H := hP
    have hD : va_D A [oX4 aW vW, ai cI (aW 5) 7 (upd (vW 5) (Int32.toNatClampNeg x1) x2), ai cI (aW 6) 7 (vW 6), ai cI (aW 7) 7 (vW 7), ai cI (aW 8) 9 (vW 8), ai cI (aW 9) 9 (vW 9), ai cI (aW 10) 9 (vW 10), ai cI (aW 11) 6 (vW 11), ai cI (aW 12) 6 (vW 12), ai cI (aW 13) 6 (vW 13)] := hD
    refine lv_iconst (v := (1 : Int32)) hx hb dX4_addLion_17 k_iconst_1 ?_
    have hres := Option.some.inj h
    subst hres
    exact hRet 18 nz1 _ _ _ hP hD hS dX4_addLion_18
  · have h := (if_pos c5).symm.trans h
    refine lv_iconst (v := (0 : Int32)) hx hb dX4_addLion_8 k_iconst_0 ?_
    have hres := Option.some.inj h
    subst hres
    exact hRet 9 nz0 _ _ _ hP hD hS dX4_addLion_9
abbrev rm_X4_addHost : Room := { frames := 1, cells := 0, slots := 0, locals := 22 }
theorem fi_X4_addHost_X4 : ∀ w ∈ wsX40, w ∈ wsX4_addHost := fun _ h => List.mem_cons_of_mem _ (List.mem_append_right _ h)
theorem hdV_X4_addHost : yX4_addHost.cls = RX4 ∧ yX4_addHost.cls ≠ "java/lang/invoke/MethodHandle" ∧ yX4_addHost.cls ≠ "java/lang/invoke/VarHandle" ∧ (parseMethodDescriptor yX4_addHost.desc).map (fun d => d.parameters.length) = some 3 := by decide +kernel
set_option maxRecDepth 100000 in
set_option maxHeartbeats 4000000 in
theorem c_X4_addHost (l : Launch) (G : va_G) (cI cZ : ClassId) (aW : Nat → Nat) (vW : Ob) (x1 : Int32) (x2 : Int32) (x3 : Int32) (res : Int32 × Ob) (h : m_X4_addHost vW x1 x2 x3 = some res) : Ct l yX4_addHost wsX4_addHost rm_X4_addHost G cI cZ [.ref (aW 0), .int x1, .int x2, .int x3] [oX4 aW vW, ai cI (aW 5) 7 (vW 5), ai cI (aW 6) 7 (vW 6), ai cI (aW 7) 7 (vW 7), ai cI (aW 8) 9 (vW 8), ai cI (aW 9) 9 (vW 9), ai cI (aW 10) 9 (vW 10), ai cI (aW 11) 6 (vW 11), ai cI (aW 12) 6 (vW 12), ai cI (aW 13) 6 (vW 13)] (some (.int res.1)) [oX4 aW res.2, ai cI (aW 5) 7 (res.2 5), ai cI (aW 6) 7 (res.2 6), ai cI (aW 7) 7 (res.2 7), ai cI (aW 8) 9 (res.2 8), ai cI (aW 9) 9 (res.2 9), ai cI (aW 10) 9 (res.2 10), ai cI (aW 11) 6 (res.2 11), ai cI (aW 12) 6 (res.2 12), ai cI (aW 13) 6 (res.2 13)] := by
  refine Ct.of_z (maxL := 4) (by decide) rfl (Nat.le_of_ble_eq_true rfl) ?_
  intro p e s m below meth c args hx hb hml hown hts A hA hEN hP hD hS Q hRet ls hl
  have hown : s.vm.findClass RX4 = some m.cls := hown
  have hl : lv_has ls 4 [(0, .ref (aW 0)), (1, .int x1), (2, .int x2), (3, .int x3)] := hl
  unfold m_X4_addHost at h
  refine lv_aload_n hx hb dX4_addHost_0 rfl (lv_at hl 0 rfl) ?_
  refine va_get (D := G) (ci := 4) (v := .int (vW 0 2)) (C := RX4) (T := TX4) (N := 13) hx hb hts fi_X4_addHost_X4 hown hEN.1 hP 0 rfl rfl 2 (by decide) (hts (.fieldLink RX4 46 "HourWell$World" "hosts" "I") (List.mem_of_getElem? (i := 1) rfl)) (fun _ h9 => h9) rfl dX4_addHost_1 ?_
  refine lv_iconst (v := (0 : Int32)) hx hb dX4_addHost_4 k_iconst_0 ?_
  refine lv_iconst (v := (5 : Int32)) hx hb dX4_addHost_5 k_iconst_5 ?_
  obtain ⟨o6, ho6, h⟩ := bnd_some h
  refine call_SN0 (As := [.int (vW 0 2), .int (0 : Int32), .int (5 : Int32)]) (rest := []) ⟨hx, hb, hml, hown, hts⟩ (c_X5_isWithin l G cI cZ  (vW 0 2) (0 : Int32) (5 : Int32) o6 ho6) ⟨va_cnB 3 hts gX4_addHost_X5_isWithin_n58 rfl rfl rfl (hEN.2.1 _ (List.mem_of_getElem? (i := 9) rfl)) (hts (.initialized RX5) (List.mem_of_getElem? (i := 6) rfl)) hdS_X5_isWithin ⟨Nat.le_of_ble_eq_true rfl, Nat.le_of_ble_eq_true rfl⟩, hts (.static yX5_isWithin) (List.mem_of_getElem? (i := 5) rfl), trivial⟩ hEN hA hP hD hS [] rfl (by decide) rfl hl.1 rfl (Nat.le_of_ble_eq_true rfl) dX4_addHost_6 ⟨Nat.le_of_ble_eq_true rfl, Nat.le_of_ble_eq_true rfl⟩ (fun H locs hP hS => ?_)
  refine lv_if_ne (tgt := 14) hx hb dX4_addHost_9 (by decide) (fun c9 => ?_) (fun c9 => ?_)
  · have h := (if_neg c9).symm.trans h
    refine lv_aload_n hx hb dX4_addHost_14 rfl (lv_at hl 0 rfl) ?_
    refine va_get (D := G) (ci := 4) (v := .ref (aW 11)) (C := RX4) (T := TX4) (N := 13) hx hb hts fi_X4_addHost_X4 hown hEN.1 hP 0 rfl rfl 10 (by decide) (hts (.fieldLink RX4 30 "HourWell$World" "homes" "[I") (List.mem_of_getElem? (i := 2) rfl)) (fun _ h9 => h9) rfl dX4_addHost_15 ?_
    refine lv_aload_n hx hb dX4_addHost_18 rfl (lv_at hl 0 rfl) ?_
    refine va_get (D := G) (ci := 4) (v := .int (vW 0 2)) (C := RX4) (T := TX4) (N := 13) hx hb hts fi_X4_addHost_X4 hown hEN.1 hP 0 rfl rfl 2 (by decide) (hts (.fieldLink RX4 46 "HourWell$World" "hosts" "I") (List.mem_of_getElem? (i := 1) rfl)) (fun _ h9 => h9) rfl dX4_addHost_19 ?_
    refine lv_iload_n hx hb dX4_addHost_22 rfl (lv_at hl 1 rfl) ?_
    obtain ⟨hg23, h⟩ := grd_some h
    refine va_iast (f := (vW 11)) hx hb hEN.1 hP hD hS 7 0 rfl rfl (inb_in hg23) dX4_addHost_23 (fun H locs hP hD hS => ?_)
    have hP : va_P G vwCl [oX4 aW vW, ai cI (aW 5) 7 (vW 5), ai cI (aW 6) 7 (vW 6), ai cI (aW 7) 7 (vW 7), ai cI (aW 8) 9 (vW 8), ai cI (aW 9) 9 (vW 9), ai cI (aW 10) 9 (vW 10), ai cI (aW 11) 6 (upd (vW 11) (Int32.toNatClampNeg (vW 0 2)) x1), ai cI (aW 12) 6 (vW 12), ai cI (aW 13) 6 (vW 13)] H := hP
    have hD : va_D A [oX4 aW vW, ai cI (aW 5) 7 (vW 5), ai cI (aW 6) 7 (vW 6), ai cI (aW 7) 7 (vW 7), ai cI (aW 8) 9 (vW 8), ai cI (aW 9) 9 (vW 9), ai cI (aW 10) 9 (vW 10), ai cI (aW 11) 6 (upd (vW 11) (Int32.toNatClampNeg (vW 0 2)) x1), ai cI (aW 12) 6 (vW 12), ai cI (aW 13) 6 (vW 13)] := hD
    refine lv_aload_n hx hb dX4_addHost_24 rfl (lv_at hl 0 rfl) ?_
    refine va_get (D := G) (ci := 4) (v := .ref (aW 12)) (C := RX4) (T := TX4) (N := 13) hx hb hts fi_X4_addHost_X4 hown hEN.1 hP 0 rfl rfl 11 (by decide) (hts (.fieldLink RX4 33 "HourWell$World" "gifts" "[I") (List.mem_of_getElem? (i := 3) rfl)) (fun _ h9 => h9) rfl dX4_addHost_25 ?_
    refine lv_aload_n hx hb dX4_addHost_28 rfl (lv_at hl 0 rfl) ?_
    refine va_get (D := G) (ci := 4) (v := .int (vW 0 2)) (C := RX4) (T := TX4) (N := 13) hx hb hts fi_X4_addHost_X4 hown hEN.1 hP 0 rfl rfl 2 (by decide) (hts (.fieldLink RX4 46 "HourWell$World" "hosts" "I") (List.mem_of_getElem? (i := 1) rfl)) (fun _ h9 => h9) rfl dX4_addHost_29 ?_
    refine lv_iload_n hx hb dX4_addHost_32 rfl (lv_at hl 2 rfl) ?_
    obtain ⟨hg33, h⟩ := grd_some h
    refine va_iast (f := (vW 12)) hx hb hEN.1 hP hD hS 8 0 rfl rfl (inb_in hg33) dX4_addHost_33 (fun H locs hP hD hS => ?_)
    have hP : va_P G vwCl [oX4 aW vW, ai cI (aW 5) 7 (vW 5), ai cI (aW 6) 7 (vW 6), ai cI (aW 7) 7 (vW 7), ai cI (aW 8) 9 (vW 8), ai cI (aW 9) 9 (vW 9), ai cI (aW 10) 9 (vW 10), ai cI (aW 11) 6 (upd (vW 11) (Int32.toNatClampNeg (vW 0 2)) x1), ai cI (aW 12) 6 (upd (vW 12) (Int32.toNatClampNeg (vW 0 2)) x2), ai cI (aW 13) 6 (vW 13)] H := hP
    have hD : va_D A [oX4 aW vW, ai cI (aW 5) 7 (vW 5), ai cI (aW 6) 7 (vW 6), ai cI (aW 7) 7 (vW 7), ai cI (aW 8) 9 (vW 8), ai cI (aW 9) 9 (vW 9), ai cI (aW 10) 9 (vW 10), ai cI (aW 11) 6 (upd (vW 11) (Int32.toNatClampNeg (vW 0 2)) x1), ai cI (aW 12) 6 (upd (vW 12) (Int32.toNatClampNeg (vW 0 2)) x2), ai cI (aW 13) 6 (vW 13)] := hD
    refine lv_aload_n hx hb dX4_addHost_34 rfl (lv_at hl 0 rfl) ?_
    refine va_get (D := G) (ci := 4) (v := .ref (aW 13)) (C := RX4) (T := TX4) (N := 13) hx hb hts fi_X4_addHost_X4 hown hEN.1 hP 0 rfl rfl 12 (by decide) (hts (.fieldLink RX4 36 "HourWell$World" "wishes" "[I") (List.mem_of_getElem? (i := 4) rfl)) (fun _ h9 => h9) rfl dX4_addHost_35 ?_
    refine lv_aload_n hx hb dX4_addHost_38 rfl (lv_at hl 0 rfl) ?_
    refine va_get (D := G) (ci := 4) (v := .int (vW 0 2)) (C := RX4) (T := TX4) (N := 13) hx hb hts fi_X4_addHost_X4 hown hEN.1 hP 0 rfl rfl 2 (by decide) (hts (.fieldLink RX4 46 "HourWell$World" "hosts" "I") (List.mem_of_getElem? (i := 1) rfl)) (fun _ h9 => h9) rfl dX4_addHost_39 ?_
    refine lv_iload_n hx hb dX4_addHost_42 rfl (lv_at hl 3 rfl) ?_
    obtain ⟨hg43, h⟩ := grd_some h
    refine va_iast (f := (vW 13)) hx hb hEN.1 hP hD hS 9 0 rfl rfl (inb_in hg43) dX4_addHost_43 (fun H locs hP hD hS => ?_)
    have hP : va_P G vwCl [oX4 aW vW, ai cI (aW 5) 7 (vW 5), ai cI (aW 6) 7 (vW 6), ai cI (aW 7) 7 (vW 7), ai cI (aW 8) 9 (vW 8), ai cI (aW 9) 9 (vW 9), ai cI (aW 10) 9 (vW 10), ai cI (aW 11) 6 (upd (vW 11) (Int32.toNatClampNeg (vW 0 2)) x1), ai cI (aW 12) 6 (upd (vW 12) (Int32.toNatClampNeg (vW 0 2)) x2), ai cI (aW 13) 6 (upd (vW 13) (Int32.toNatClampNeg (vW 0 2)) x3)] H := hP
    have hD : va_D A [oX4 aW vW, ai cI (aW 5) 7 (vW 5), ai cI (aW 6) 7 (vW 6), ai cI (aW 7) 7 (vW 7), ai cI (aW 8) 9 (vW 8), ai cI (aW 9) 9 (vW 9), ai cI (aW 10) 9 (vW 10), ai cI (aW 11) 6 (upd (vW 11) (Int32.toNatClampNeg (vW 0 2)) x1), ai cI (aW 12) 6 (upd (vW 12) (Int32.toNatClampNeg (vW 0 2)) x2), ai cI (aW 13) 6 (upd (vW 13) (Int32.toNatClampNeg (vW 0 2)) x3)] := hD
    refine lv_aload_n hx hb dX4_addHost_44 rfl (lv_at hl 0 rfl) ?_
    refine lv_dup hx hb dX4_addHost_45 rfl ?_
    refine va_get (D := G) (ci := 4) (v := .int (vW 0 2)) (C := RX4) (T := TX4) (N := 13) hx hb hts fi_X4_addHost_X4 hown hEN.1 hP 0 rfl rfl 2 (by decide) (hts (.fieldLink RX4 46 "HourWell$World" "hosts" "I") (List.mem_of_getElem? (i := 1) rfl)) (fun _ h9 => h9) rfl dX4_addHost_46 ?_
    refine lv_iconst (v := (1 : Int32)) hx hb dX4_addHost_49 k_iconst_1 ?_
    refine lv_iadd hx hb dX4_addHost_50 ?_
    refine va_put (D := G) (ci := 4) (v := .int ((vW 0 2) + (1 : Int32))) (ty := .int) (C := RX4) (T := TX4) (N := 13) hx hb hts fi_X4_addHost_X4 tyX4 tyX4_ok nmX4 hown hEN.1 hP hD hS 0 rfl rfl 2 (by decide) (hts (.fieldLink RX4 46 "HourWell$World" "hosts" "I") (List.mem_of_getElem? (i := 1) rfl)) (fun _ h9 => h9) rfl (by decide +kernel) rfl rfl (Nat.le_of_ble_eq_true rfl) dX4_addHost_51 (fun H locs hP hD hS => ?_)
    have hP : va_P G vwCl [oX4 aW (st vW 0 2 ((vW 0 2) + (1 : Int32))), ai cI (aW 5) 7 (vW 5), ai cI (aW 6) 7 (vW 6), ai cI (aW 7) 7 (vW 7), ai cI (aW 8) 9 (vW 8), ai cI (aW 9) 9 (vW 9), ai cI (aW 10) 9 (vW 10), ai cI (aW 11) 6 (upd (vW 11) (Int32.toNatClampNeg (vW 0 2)) x1), ai cI (aW 12) 6 (upd (vW 12) (Int32.toNatClampNeg (vW 0 2)) x2), ai cI (aW 13) 6 (upd (vW 13) (Int32.toNatClampNeg (vW 0 2)) x3)] H := hP
    have hD : va_D A [oX4 aW (st vW 0 2 ((vW 0 2) + (1 : Int32))), ai cI (aW 5) 7 (vW 5), ai cI (aW 6) 7 (vW 6), ai cI (aW 7) 7 (vW 7), ai cI (aW 8) 9 (vW 8), ai cI (aW 9) 9 (vW 9), ai cI (aW 10) 9 (vW 10), ai cI (aW 11) 6 (upd (vW 11) (Int32.toNatClampNeg (vW 0 2)) x1), ai cI (aW 12) 6 (upd (vW 12) (Int32.toNatClampNeg (vW 0 2)) x2), ai cI (aW 13) 6 (upd (vW 13) (Int32.toNatClampNeg (vW 0 2)) x3)] := hD
    refine lv_iconst (v := (1 : Int32)) hx hb dX4_addHost_54 k_iconst_1 ?_
    have hres := Option.some.inj h
    subst hres
    exact hRet 55 nz1 _ _ _ hP hD hS dX4_addHost_55
  · have h := (if_pos c9).symm.trans h
    refine lv_iconst (v := (0 : Int32)) hx hb dX4_addHost_12 k_iconst_0 ?_
    have hres := Option.some.inj h
    subst hres
    exact hRet 13 nz0 _ _ _ hP hD hS dX4_addHost_13
abbrev rm_X4_gateFromAt : Room := { frames := 1, cells := 0, slots := 0, locals := 21 }
theorem fi_X4_gateFromAt_X4 : ∀ w ∈ wsX40, w ∈ wsX4_gateFromAt := fun _ h => List.mem_cons_of_mem _ (List.mem_append_right _ h)
theorem hdV_X4_gateFromAt : yX4_gateFromAt.cls = RX4 ∧ yX4_gateFromAt.cls ≠ "java/lang/invoke/MethodHandle" ∧ yX4_gateFromAt.cls ≠ "java/lang/invoke/VarHandle" ∧ (parseMethodDescriptor yX4_gateFromAt.desc).map (fun d => d.parameters.length) = some 1 := by decide +kernel
set_option maxRecDepth 100000 in
set_option maxHeartbeats 4000000 in
theorem c_X4_gateFromAt (l : Launch) (G : va_G) (cI cZ : ClassId) (aW : Nat → Nat) (vW : Ob) (x1 : Int32) (res : Int32) (h : m_X4_gateFromAt vW x1 = some res) : Ct l yX4_gateFromAt wsX4_gateFromAt rm_X4_gateFromAt G cI cZ [.ref (aW 0), .int x1] [oX4 aW vW, ai cI (aW 6) 7 (vW 6)] (some (.int res)) [oX4 aW vW, ai cI (aW 6) 7 (vW 6)] := by
  refine Ct.of_i (maxL := 2) (by decide) rfl (Nat.le_of_ble_eq_true rfl) ?_
  intro p e s m below meth c args hx hb hml hown hts A hA hEN hP hD hS Q hRet ls hl
  have hown : s.vm.findClass RX4 = some m.cls := hown
  have hl : lv_has ls 2 [(0, .ref (aW 0)), (1, .int x1)] := hl
  unfold m_X4_gateFromAt at h
  refine lv_aload_n hx hb dX4_gateFromAt_0 rfl (lv_at hl 0 rfl) ?_
  refine lv_iload_n hx hb dX4_gateFromAt_1 rfl (lv_at hl 1 rfl) ?_
  obtain ⟨o2, ho2, h⟩ := bnd_some h
  refine call_V0 (As := [.int x1]) (rest := []) ⟨hx, hb, hml, hown, hts⟩ (c_X4_hasPlace l G cI cZ aW vW x1 o2 ho2) (cwV 1 hts gX4_gateFromAt_X4_hasPlace rfl rfl rfl hdV_X4_hasPlace ⟨Nat.le_of_ble_eq_true rfl, Nat.le_of_ble_eq_true rfl⟩) hEN hA hP hD hS [0] rfl (by decide) 0 rfl rfl rfl hl.1 rfl (Nat.le_of_ble_eq_true rfl) dX4_gateFromAt_2 ⟨Nat.le_of_ble_eq_true rfl, Nat.le_of_ble_eq_true rfl⟩ (fun H locs hP hS => ?_)
  refine lv_if_eq (tgt := 17) hx hb dX4_gateFromAt_5 (by decide) (fun c5 => ?_) (fun c5 => ?_)
  · have h := (if_pos c5).symm.trans h
    refine lv_bipush (v := (-9 : Int32)) hx hb dX4_gateFromAt_17 k_bipush_n9 ?_
    have hres := Option.some.inj h
    subst hres
    exact hRet 19 _ _ _ hP hD hS dX4_gateFromAt_19
  · have h := (if_neg c5).symm.trans h
    refine lv_aload_n hx hb dX4_gateFromAt_8 rfl (lv_at hl 0 rfl) ?_
    refine va_get (D := G) (ci := 4) (v := .ref (aW 6)) (C := RX4) (T := TX4) (N := 13) hx hb hts fi_X4_gateFromAt_X4 hown hEN.1 hP 0 rfl rfl 5 (by decide) (hts (.fieldLink RX4 15 "HourWell$World" "gateFrom" "[I") (List.mem_of_getElem? (i := 1) rfl)) (fun _ h9 => h9) rfl dX4_gateFromAt_9 ?_
    refine lv_iload_n hx hb dX4_gateFromAt_12 rfl (lv_at hl 1 rfl) ?_
    obtain ⟨hg13, h⟩ := grd_some h
    refine va_iald (f := (vW 6)) hx hb hEN.1 hP 1 0 rfl rfl (inb_in hg13) dX4_gateFromAt_13 ?_
    refine lv_goto (tgt := 19) hx hb dX4_gateFromAt_14 (by decide) ?_
    have hres := Option.some.inj h
    subst hres
    exact hRet 19 _ _ _ hP hD hS dX4_gateFromAt_19
abbrev rm_X4_addGate : Room := { frames := 1, cells := 0, slots := 0, locals := 21 }
theorem fi_X4_addGate_X4 : ∀ w ∈ wsX40, w ∈ wsX4_addGate := fun _ h => List.mem_cons_of_mem _ (List.mem_append_right _ h)
theorem hdV_X4_addGate : yX4_addGate.cls = RX4 ∧ yX4_addGate.cls ≠ "java/lang/invoke/MethodHandle" ∧ yX4_addGate.cls ≠ "java/lang/invoke/VarHandle" ∧ (parseMethodDescriptor yX4_addGate.desc).map (fun d => d.parameters.length) = some 3 := by decide +kernel
set_option maxRecDepth 100000 in
set_option maxHeartbeats 4000000 in
theorem c_X4_addGate (l : Launch) (G : va_G) (cI cZ : ClassId) (aW : Nat → Nat) (vW : Ob) (x1 : Int32) (x2 : Int32) (x3 : Int32) (res : Int32 × Ob) (h : m_X4_addGate vW x1 x2 x3 = some res) : Ct l yX4_addGate wsX4_addGate rm_X4_addGate G cI cZ [.ref (aW 0), .int x1, .int x2, .int x3] [oX4 aW vW, ai cI (aW 5) 7 (vW 5), ai cI (aW 6) 7 (vW 6), ai cI (aW 7) 7 (vW 7), ai cI (aW 8) 9 (vW 8), ai cI (aW 9) 9 (vW 9), ai cI (aW 10) 9 (vW 10), ai cI (aW 11) 6 (vW 11), ai cI (aW 12) 6 (vW 12), ai cI (aW 13) 6 (vW 13)] (some (.int res.1)) [oX4 aW res.2, ai cI (aW 5) 7 (res.2 5), ai cI (aW 6) 7 (res.2 6), ai cI (aW 7) 7 (res.2 7), ai cI (aW 8) 9 (res.2 8), ai cI (aW 9) 9 (res.2 9), ai cI (aW 10) 9 (res.2 10), ai cI (aW 11) 6 (res.2 11), ai cI (aW 12) 6 (res.2 12), ai cI (aW 13) 6 (res.2 13)] := by
  refine Ct.of_z (maxL := 4) (by decide) rfl (Nat.le_of_ble_eq_true rfl) ?_
  intro p e s m below meth c args hx hb hml hown hts A hA hEN hP hD hS Q hRet ls hl
  have hown : s.vm.findClass RX4 = some m.cls := hown
  have hl : lv_has ls 4 [(0, .ref (aW 0)), (1, .int x1), (2, .int x2), (3, .int x3)] := hl
  unfold m_X4_addGate at h
  refine lv_aload_n hx hb dX4_addGate_0 rfl (lv_at hl 0 rfl) ?_
  refine lv_iload_n hx hb dX4_addGate_1 rfl (lv_at hl 1 rfl) ?_
  obtain ⟨o2, ho2, h⟩ := bnd_some h
  refine call_V0 (As := [.int x1]) (rest := []) ⟨hx, hb, hml, hown, hts⟩ (c_X4_hasPlace l G cI cZ aW vW x1 o2 ho2) (cwV 1 hts gX4_addGate_X4_hasPlace rfl rfl rfl hdV_X4_hasPlace ⟨Nat.le_of_ble_eq_true rfl, Nat.le_of_ble_eq_true rfl⟩) hEN hA hP hD hS [0] rfl (by decide) 0 rfl rfl rfl hl.1 rfl (Nat.le_of_ble_eq_true rfl) dX4_addGate_2 ⟨Nat.le_of_ble_eq_true rfl, Nat.le_of_ble_eq_true rfl⟩ (fun H locs hP hS => ?_)
  refine lv_if_ne (tgt := 10) hx hb dX4_addGate_5 (by decide) (fun c5 => ?_) (fun c5 => ?_)
  · have h := (if_neg c5).symm.trans h
    refine lv_aload_n hx hb dX4_addGate_10 rfl (lv_at hl 0 rfl) ?_
    refine va_get (D := G) (ci := 4) (v := .ref (aW 6)) (C := RX4) (T := TX4) (N := 13) hx hb hts fi_X4_addGate_X4 hown hEN.1 hP 0 rfl rfl 5 (by decide) (hts (.fieldLink RX4 15 "HourWell$World" "gateFrom" "[I") (List.mem_of_getElem? (i := 1) rfl)) (fun _ h9 => h9) rfl dX4_addGate_11 ?_
    refine lv_iload_n hx hb dX4_addGate_14 rfl (lv_at hl 1 rfl) ?_
    refine lv_iload_n hx hb dX4_addGate_15 rfl (lv_at hl 2 rfl) ?_
    obtain ⟨hg16, h⟩ := grd_some h
    refine va_iast (f := (vW 6)) hx hb hEN.1 hP hD hS 2 0 rfl rfl (inb_in hg16) dX4_addGate_16 (fun H locs hP hD hS => ?_)
    have hP : va_P G vwCl [oX4 aW vW, ai cI (aW 5) 7 (vW 5), ai cI (aW 6) 7 (upd (vW 6) (Int32.toNatClampNeg x1) x2), ai cI (aW 7) 7 (vW 7), ai cI (aW 8) 9 (vW 8), ai cI (aW 9) 9 (vW 9), ai cI (aW 10) 9 (vW 10), ai cI (aW 11) 6 (vW 11), ai cI (aW 12) 6 (vW 12), ai cI (aW 13) 6 (vW 13)] H := hP
    have hD : va_D A [oX4 aW vW, ai cI (aW 5) 7 (vW 5), ai cI (aW 6) 7 (upd (vW 6) (Int32.toNatClampNeg x1) x2), ai cI (aW 7) 7 (vW 7), ai cI (aW 8) 9 (vW 8), ai cI (aW 9) 9 (vW 9), ai cI (aW 10) 9 (vW 10), ai cI (aW 11) 6 (vW 11), ai cI (aW 12) 6 (vW 12), ai cI (aW 13) 6 (vW 13)] := hD
    refine lv_aload_n hx hb dX4_addGate_17 rfl (lv_at hl 0 rfl) ?_
    refine va_get (D := G) (ci := 4) (v := .ref (aW 7)) (C := RX4) (T := TX4) (N := 13) hx hb hts fi_X4_addGate_X4 hown hEN.1 hP 0 rfl rfl 6 (by decide) (hts (.fieldLink RX4 18 "HourWell$World" "gateHours" "[I") (List.mem_of_getElem? (i := 2) rfl)) (fun _ h9 => h9) rfl dX4_addGate_18 ?_
    refine lv_iload_n hx hb dX4_addGate_21 rfl (lv_at hl 1 rfl) ?_
    refine lv_iload_n hx hb dX4_addGate_22 rfl (lv_at hl 3 rfl) ?_
    obtain ⟨hg23, h⟩ := grd_some h
    refine va_iast (f := (vW 7)) hx hb hEN.1 hP hD hS 3 0 rfl rfl (inb_in hg23) dX4_addGate_23 (fun H locs hP hD hS => ?_)
    have hP : va_P G vwCl [oX4 aW vW, ai cI (aW 5) 7 (vW 5), ai cI (aW 6) 7 (upd (vW 6) (Int32.toNatClampNeg x1) x2), ai cI (aW 7) 7 (upd (vW 7) (Int32.toNatClampNeg x1) x3), ai cI (aW 8) 9 (vW 8), ai cI (aW 9) 9 (vW 9), ai cI (aW 10) 9 (vW 10), ai cI (aW 11) 6 (vW 11), ai cI (aW 12) 6 (vW 12), ai cI (aW 13) 6 (vW 13)] H := hP
    have hD : va_D A [oX4 aW vW, ai cI (aW 5) 7 (vW 5), ai cI (aW 6) 7 (upd (vW 6) (Int32.toNatClampNeg x1) x2), ai cI (aW 7) 7 (upd (vW 7) (Int32.toNatClampNeg x1) x3), ai cI (aW 8) 9 (vW 8), ai cI (aW 9) 9 (vW 9), ai cI (aW 10) 9 (vW 10), ai cI (aW 11) 6 (vW 11), ai cI (aW 12) 6 (vW 12), ai cI (aW 13) 6 (vW 13)] := hD
    refine lv_iconst (v := (1 : Int32)) hx hb dX4_addGate_24 k_iconst_1 ?_
    have hres := Option.some.inj h
    subst hres
    exact hRet 25 nz1 _ _ _ hP hD hS dX4_addGate_25
  · have h := (if_pos c5).symm.trans h
    refine lv_iconst (v := (0 : Int32)) hx hb dX4_addGate_8 k_iconst_0 ?_
    have hres := Option.some.inj h
    subst hres
    exact hRet 9 nz0 _ _ _ hP hD hS dX4_addGate_9
abbrev rm_X4_hasHost : Room := { frames := 0, cells := 0, slots := 0, locals := 0 }
theorem fi_X4_hasHost_X4 : ∀ w ∈ wsX40, w ∈ wsX4_hasHost := fun _ h => List.mem_cons_of_mem _ (List.mem_append_right _ h)
theorem hdV_X4_hasHost : yX4_hasHost.cls = RX4 ∧ yX4_hasHost.cls ≠ "java/lang/invoke/MethodHandle" ∧ yX4_hasHost.cls ≠ "java/lang/invoke/VarHandle" ∧ (parseMethodDescriptor yX4_hasHost.desc).map (fun d => d.parameters.length) = some 1 := by decide +kernel
set_option maxRecDepth 100000 in
set_option maxHeartbeats 4000000 in
theorem c_X4_hasHost (l : Launch) (G : va_G) (cI cZ : ClassId) (aW : Nat → Nat) (vW : Ob) (x1 : Int32) (res : Int32) (h : m_X4_hasHost vW x1 = some res) : Ct l yX4_hasHost wsX4_hasHost rm_X4_hasHost G cI cZ [.ref (aW 0), .int x1] [oX4 aW vW] (some (.int res)) [oX4 aW vW] := by
  refine Ct.of_z (maxL := 2) (by decide) rfl (Nat.le_of_ble_eq_true rfl) ?_
  intro p e s m below meth c args hx hb hml hown hts A hA hEN hP hD hS Q hRet ls hl
  have hown : s.vm.findClass RX4 = some m.cls := hown
  have hl : lv_has ls 2 [(0, .ref (aW 0)), (1, .int x1)] := hl
  unfold m_X4_hasHost at h
  refine lv_iload_n hx hb dX4_hasHost_0 rfl (lv_at hl 1 rfl) ?_
  refine lv_if_lt (tgt := 22) hx hb dX4_hasHost_1 (by decide) (fun c1 => ?_) (fun c1 => ?_)
  · have h := (if_pos c1).symm.trans h
    refine lv_iconst (v := (0 : Int32)) hx hb dX4_hasHost_22 k_iconst_0 ?_
    have hres := Option.some.inj h
    subst hres
    exact hRet 23 nz0 _ _ _ hP hD hS dX4_hasHost_23
  · have h := (if_neg c1).symm.trans h
    refine lv_iload_n hx hb dX4_hasHost_4 rfl (lv_at hl 1 rfl) ?_
    refine lv_aload_n hx hb dX4_hasHost_5 rfl (lv_at hl 0 rfl) ?_
    refine va_get (D := G) (ci := 4) (v := .int (vW 0 2)) (C := RX4) (T := TX4) (N := 13) hx hb hts fi_X4_hasHost_X4 hown hEN.1 hP 0 rfl rfl 2 (by decide) (hts (.fieldLink RX4 46 "HourWell$World" "hosts" "I") (List.mem_of_getElem? (i := 1) rfl)) (fun _ h9 => h9) rfl dX4_hasHost_6 ?_
    refine lv_icmp_ge (tgt := 22) hx hb dX4_hasHost_9 (by decide) (fun c9 => ?_) (fun c9 => ?_)
    · have h := (if_pos c9).symm.trans h
      refine lv_iconst (v := (0 : Int32)) hx hb dX4_hasHost_22 k_iconst_0 ?_
      have hres := Option.some.inj h
      subst hres
      exact hRet 23 nz0 _ _ _ hP hD hS dX4_hasHost_23
    · have h := (if_neg c9).symm.trans h
      refine lv_iload_n hx hb dX4_hasHost_12 rfl (lv_at hl 1 rfl) ?_
      refine lv_bipush (v := (6 : Int32)) hx hb dX4_hasHost_13 k_bipush_6 ?_
      refine lv_icmp_ge (tgt := 22) hx hb dX4_hasHost_15 (by decide) (fun c15 => ?_) (fun c15 => ?_)
      · have h := (if_pos c15).symm.trans h
        refine lv_iconst (v := (0 : Int32)) hx hb dX4_hasHost_22 k_iconst_0 ?_
        have hres := Option.some.inj h
        subst hres
        exact hRet 23 nz0 _ _ _ hP hD hS dX4_hasHost_23
      · have h := (if_neg c15).symm.trans h
        refine lv_iconst (v := (1 : Int32)) hx hb dX4_hasHost_18 k_iconst_1 ?_
        refine lv_goto (tgt := 23) hx hb dX4_hasHost_19 (by decide) ?_
        have hres := Option.some.inj h
        subst hres
        exact hRet 23 nz1 _ _ _ hP hD hS dX4_hasHost_23
abbrev rm_X4_hostPlace : Room := { frames := 1, cells := 0, slots := 0, locals := 21 }
theorem fi_X4_hostPlace_X4 : ∀ w ∈ wsX40, w ∈ wsX4_hostPlace := fun _ h => List.mem_cons_of_mem _ (List.mem_append_right _ h)
theorem hdV_X4_hostPlace : yX4_hostPlace.cls = RX4 ∧ yX4_hostPlace.cls ≠ "java/lang/invoke/MethodHandle" ∧ yX4_hostPlace.cls ≠ "java/lang/invoke/VarHandle" ∧ (parseMethodDescriptor yX4_hostPlace.desc).map (fun d => d.parameters.length) = some 1 := by decide +kernel
set_option maxRecDepth 100000 in
set_option maxHeartbeats 4000000 in
theorem c_X4_hostPlace (l : Launch) (G : va_G) (cI cZ : ClassId) (aW : Nat → Nat) (vW : Ob) (x1 : Int32) (res : Int32) (h : m_X4_hostPlace vW x1 = some res) : Ct l yX4_hostPlace wsX4_hostPlace rm_X4_hostPlace G cI cZ [.ref (aW 0), .int x1] [oX4 aW vW, ai cI (aW 11) 6 (vW 11)] (some (.int res)) [oX4 aW vW, ai cI (aW 11) 6 (vW 11)] := by
  refine Ct.of_i (maxL := 2) (by decide) rfl (Nat.le_of_ble_eq_true rfl) ?_
  intro p e s m below meth c args hx hb hml hown hts A hA hEN hP hD hS Q hRet ls hl
  have hown : s.vm.findClass RX4 = some m.cls := hown
  have hl : lv_has ls 2 [(0, .ref (aW 0)), (1, .int x1)] := hl
  unfold m_X4_hostPlace at h
  refine lv_aload_n hx hb dX4_hostPlace_0 rfl (lv_at hl 0 rfl) ?_
  refine lv_iload_n hx hb dX4_hostPlace_1 rfl (lv_at hl 1 rfl) ?_
  obtain ⟨o2, ho2, h⟩ := bnd_some h
  refine call_V0 (As := [.int x1]) (rest := []) ⟨hx, hb, hml, hown, hts⟩ (c_X4_hasHost l G cI cZ aW vW x1 o2 ho2) (cwV 1 hts gX4_hostPlace_X4_hasHost rfl rfl rfl hdV_X4_hasHost ⟨Nat.le_of_ble_eq_true rfl, Nat.le_of_ble_eq_true rfl⟩) hEN hA hP hD hS [0] rfl (by decide) 0 rfl rfl rfl hl.1 rfl (Nat.le_of_ble_eq_true rfl) dX4_hostPlace_2 ⟨Nat.le_of_ble_eq_true rfl, Nat.le_of_ble_eq_true rfl⟩ (fun H locs hP hS => ?_)
  refine lv_if_eq (tgt := 17) hx hb dX4_hostPlace_5 (by decide) (fun c5 => ?_) (fun c5 => ?_)
  · have h := (if_pos c5).symm.trans h
    refine lv_bipush (v := (-9 : Int32)) hx hb dX4_hostPlace_17 k_bipush_n9 ?_
    have hres := Option.some.inj h
    subst hres
    exact hRet 19 _ _ _ hP hD hS dX4_hostPlace_19
  · have h := (if_neg c5).symm.trans h
    refine lv_aload_n hx hb dX4_hostPlace_8 rfl (lv_at hl 0 rfl) ?_
    refine va_get (D := G) (ci := 4) (v := .ref (aW 11)) (C := RX4) (T := TX4) (N := 13) hx hb hts fi_X4_hostPlace_X4 hown hEN.1 hP 0 rfl rfl 10 (by decide) (hts (.fieldLink RX4 30 "HourWell$World" "homes" "[I") (List.mem_of_getElem? (i := 1) rfl)) (fun _ h9 => h9) rfl dX4_hostPlace_9 ?_
    refine lv_iload_n hx hb dX4_hostPlace_12 rfl (lv_at hl 1 rfl) ?_
    obtain ⟨hg13, h⟩ := grd_some h
    refine va_iald (f := (vW 11)) hx hb hEN.1 hP 1 0 rfl rfl (inb_in hg13) dX4_hostPlace_13 ?_
    refine lv_goto (tgt := 19) hx hb dX4_hostPlace_14 (by decide) ?_
    have hres := Option.some.inj h
    subst hres
    exact hRet 19 _ _ _ hP hD hS dX4_hostPlace_19
abbrev rm_X4_hostGives : Room := { frames := 1, cells := 0, slots := 0, locals := 21 }
theorem fi_X4_hostGives_X4 : ∀ w ∈ wsX40, w ∈ wsX4_hostGives := fun _ h => List.mem_cons_of_mem _ (List.mem_append_right _ h)
theorem hdV_X4_hostGives : yX4_hostGives.cls = RX4 ∧ yX4_hostGives.cls ≠ "java/lang/invoke/MethodHandle" ∧ yX4_hostGives.cls ≠ "java/lang/invoke/VarHandle" ∧ (parseMethodDescriptor yX4_hostGives.desc).map (fun d => d.parameters.length) = some 1 := by decide +kernel
set_option maxRecDepth 100000 in
set_option maxHeartbeats 4000000 in
theorem c_X4_hostGives (l : Launch) (G : va_G) (cI cZ : ClassId) (aW : Nat → Nat) (vW : Ob) (x1 : Int32) (res : Int32) (h : m_X4_hostGives vW x1 = some res) : Ct l yX4_hostGives wsX4_hostGives rm_X4_hostGives G cI cZ [.ref (aW 0), .int x1] [oX4 aW vW, ai cI (aW 12) 6 (vW 12)] (some (.int res)) [oX4 aW vW, ai cI (aW 12) 6 (vW 12)] := by
  refine Ct.of_i (maxL := 2) (by decide) rfl (Nat.le_of_ble_eq_true rfl) ?_
  intro p e s m below meth c args hx hb hml hown hts A hA hEN hP hD hS Q hRet ls hl
  have hown : s.vm.findClass RX4 = some m.cls := hown
  have hl : lv_has ls 2 [(0, .ref (aW 0)), (1, .int x1)] := hl
  unfold m_X4_hostGives at h
  refine lv_aload_n hx hb dX4_hostGives_0 rfl (lv_at hl 0 rfl) ?_
  refine lv_iload_n hx hb dX4_hostGives_1 rfl (lv_at hl 1 rfl) ?_
  obtain ⟨o2, ho2, h⟩ := bnd_some h
  refine call_V0 (As := [.int x1]) (rest := []) ⟨hx, hb, hml, hown, hts⟩ (c_X4_hasHost l G cI cZ aW vW x1 o2 ho2) (cwV 1 hts gX4_hostGives_X4_hasHost rfl rfl rfl hdV_X4_hasHost ⟨Nat.le_of_ble_eq_true rfl, Nat.le_of_ble_eq_true rfl⟩) hEN hA hP hD hS [0] rfl (by decide) 0 rfl rfl rfl hl.1 rfl (Nat.le_of_ble_eq_true rfl) dX4_hostGives_2 ⟨Nat.le_of_ble_eq_true rfl, Nat.le_of_ble_eq_true rfl⟩ (fun H locs hP hS => ?_)
  refine lv_if_eq (tgt := 17) hx hb dX4_hostGives_5 (by decide) (fun c5 => ?_) (fun c5 => ?_)
  · have h := (if_pos c5).symm.trans h
    refine lv_iconst (v := (0 : Int32)) hx hb dX4_hostGives_17 k_iconst_0 ?_
    have hres := Option.some.inj h
    subst hres
    exact hRet 18 _ _ _ hP hD hS dX4_hostGives_18
  · have h := (if_neg c5).symm.trans h
    refine lv_aload_n hx hb dX4_hostGives_8 rfl (lv_at hl 0 rfl) ?_
    refine va_get (D := G) (ci := 4) (v := .ref (aW 12)) (C := RX4) (T := TX4) (N := 13) hx hb hts fi_X4_hostGives_X4 hown hEN.1 hP 0 rfl rfl 11 (by decide) (hts (.fieldLink RX4 33 "HourWell$World" "gifts" "[I") (List.mem_of_getElem? (i := 1) rfl)) (fun _ h9 => h9) rfl dX4_hostGives_9 ?_
    refine lv_iload_n hx hb dX4_hostGives_12 rfl (lv_at hl 1 rfl) ?_
    obtain ⟨hg13, h⟩ := grd_some h
    refine va_iald (f := (vW 12)) hx hb hEN.1 hP 1 0 rfl rfl (inb_in hg13) dX4_hostGives_13 ?_
    refine lv_goto (tgt := 18) hx hb dX4_hostGives_14 (by decide) ?_
    have hres := Option.some.inj h
    subst hres
    exact hRet 18 _ _ _ hP hD hS dX4_hostGives_18
abbrev rm_X4_hostAsks : Room := { frames := 1, cells := 0, slots := 0, locals := 21 }
theorem fi_X4_hostAsks_X4 : ∀ w ∈ wsX40, w ∈ wsX4_hostAsks := fun _ h => List.mem_cons_of_mem _ (List.mem_append_right _ h)
theorem hdV_X4_hostAsks : yX4_hostAsks.cls = RX4 ∧ yX4_hostAsks.cls ≠ "java/lang/invoke/MethodHandle" ∧ yX4_hostAsks.cls ≠ "java/lang/invoke/VarHandle" ∧ (parseMethodDescriptor yX4_hostAsks.desc).map (fun d => d.parameters.length) = some 1 := by decide +kernel
set_option maxRecDepth 100000 in
set_option maxHeartbeats 4000000 in
theorem c_X4_hostAsks (l : Launch) (G : va_G) (cI cZ : ClassId) (aW : Nat → Nat) (vW : Ob) (x1 : Int32) (res : Int32) (h : m_X4_hostAsks vW x1 = some res) : Ct l yX4_hostAsks wsX4_hostAsks rm_X4_hostAsks G cI cZ [.ref (aW 0), .int x1] [oX4 aW vW, ai cI (aW 13) 6 (vW 13)] (some (.int res)) [oX4 aW vW, ai cI (aW 13) 6 (vW 13)] := by
  refine Ct.of_i (maxL := 2) (by decide) rfl (Nat.le_of_ble_eq_true rfl) ?_
  intro p e s m below meth c args hx hb hml hown hts A hA hEN hP hD hS Q hRet ls hl
  have hown : s.vm.findClass RX4 = some m.cls := hown
  have hl : lv_has ls 2 [(0, .ref (aW 0)), (1, .int x1)] := hl
  unfold m_X4_hostAsks at h
  refine lv_aload_n hx hb dX4_hostAsks_0 rfl (lv_at hl 0 rfl) ?_
  refine lv_iload_n hx hb dX4_hostAsks_1 rfl (lv_at hl 1 rfl) ?_
  obtain ⟨o2, ho2, h⟩ := bnd_some h
  refine call_V0 (As := [.int x1]) (rest := []) ⟨hx, hb, hml, hown, hts⟩ (c_X4_hasHost l G cI cZ aW vW x1 o2 ho2) (cwV 1 hts gX4_hostAsks_X4_hasHost rfl rfl rfl hdV_X4_hasHost ⟨Nat.le_of_ble_eq_true rfl, Nat.le_of_ble_eq_true rfl⟩) hEN hA hP hD hS [0] rfl (by decide) 0 rfl rfl rfl hl.1 rfl (Nat.le_of_ble_eq_true rfl) dX4_hostAsks_2 ⟨Nat.le_of_ble_eq_true rfl, Nat.le_of_ble_eq_true rfl⟩ (fun H locs hP hS => ?_)
  refine lv_if_eq (tgt := 17) hx hb dX4_hostAsks_5 (by decide) (fun c5 => ?_) (fun c5 => ?_)
  · have h := (if_pos c5).symm.trans h
    refine lv_bipush (v := (9 : Int32)) hx hb dX4_hostAsks_17 k_bipush_9 ?_
    have hres := Option.some.inj h
    subst hres
    exact hRet 19 _ _ _ hP hD hS dX4_hostAsks_19
  · have h := (if_neg c5).symm.trans h
    refine lv_aload_n hx hb dX4_hostAsks_8 rfl (lv_at hl 0 rfl) ?_
    refine va_get (D := G) (ci := 4) (v := .ref (aW 13)) (C := RX4) (T := TX4) (N := 13) hx hb hts fi_X4_hostAsks_X4 hown hEN.1 hP 0 rfl rfl 12 (by decide) (hts (.fieldLink RX4 36 "HourWell$World" "wishes" "[I") (List.mem_of_getElem? (i := 1) rfl)) (fun _ h9 => h9) rfl dX4_hostAsks_9 ?_
    refine lv_iload_n hx hb dX4_hostAsks_12 rfl (lv_at hl 1 rfl) ?_
    obtain ⟨hg13, h⟩ := grd_some h
    refine va_iald (f := (vW 13)) hx hb hEN.1 hP 1 0 rfl rfl (inb_in hg13) dX4_hostAsks_13 ?_
    refine lv_goto (tgt := 19) hx hb dX4_hostAsks_14 (by decide) ?_
    have hres := Option.some.inj h
    subst hres
    exact hRet 19 _ _ _ hP hD hS dX4_hostAsks_19
abbrev rm_X4_hasRoad : Room := { frames := 0, cells := 0, slots := 0, locals := 0 }
theorem fi_X4_hasRoad_X4 : ∀ w ∈ wsX40, w ∈ wsX4_hasRoad := fun _ h => List.mem_cons_of_mem _ (List.mem_append_right _ h)
theorem hdV_X4_hasRoad : yX4_hasRoad.cls = RX4 ∧ yX4_hasRoad.cls ≠ "java/lang/invoke/MethodHandle" ∧ yX4_hasRoad.cls ≠ "java/lang/invoke/VarHandle" ∧ (parseMethodDescriptor yX4_hasRoad.desc).map (fun d => d.parameters.length) = some 1 := by decide +kernel
set_option maxRecDepth 100000 in
set_option maxHeartbeats 4000000 in
theorem c_X4_hasRoad (l : Launch) (G : va_G) (cI cZ : ClassId) (aW : Nat → Nat) (vW : Ob) (x1 : Int32) (res : Int32) (h : m_X4_hasRoad vW x1 = some res) : Ct l yX4_hasRoad wsX4_hasRoad rm_X4_hasRoad G cI cZ [.ref (aW 0), .int x1] [oX4 aW vW] (some (.int res)) [oX4 aW vW] := by
  refine Ct.of_z (maxL := 2) (by decide) rfl (Nat.le_of_ble_eq_true rfl) ?_
  intro p e s m below meth c args hx hb hml hown hts A hA hEN hP hD hS Q hRet ls hl
  have hown : s.vm.findClass RX4 = some m.cls := hown
  have hl : lv_has ls 2 [(0, .ref (aW 0)), (1, .int x1)] := hl
  unfold m_X4_hasRoad at h
  refine lv_iload_n hx hb dX4_hasRoad_0 rfl (lv_at hl 1 rfl) ?_
  refine lv_if_lt (tgt := 22) hx hb dX4_hasRoad_1 (by decide) (fun c1 => ?_) (fun c1 => ?_)
  · have h := (if_pos c1).symm.trans h
    refine lv_iconst (v := (0 : Int32)) hx hb dX4_hasRoad_22 k_iconst_0 ?_
    have hres := Option.some.inj h
    subst hres
    exact hRet 23 nz0 _ _ _ hP hD hS dX4_hasRoad_23
  · have h := (if_neg c1).symm.trans h
    refine lv_iload_n hx hb dX4_hasRoad_4 rfl (lv_at hl 1 rfl) ?_
    refine lv_aload_n hx hb dX4_hasRoad_5 rfl (lv_at hl 0 rfl) ?_
    refine va_get (D := G) (ci := 4) (v := .int (vW 0 1)) (C := RX4) (T := TX4) (N := 13) hx hb hts fi_X4_hasRoad_X4 hown hEN.1 hP 0 rfl rfl 1 (by decide) (hts (.fieldLink RX4 43 "HourWell$World" "roads" "I") (List.mem_of_getElem? (i := 1) rfl)) (fun _ h9 => h9) rfl dX4_hasRoad_6 ?_
    refine lv_icmp_ge (tgt := 22) hx hb dX4_hasRoad_9 (by decide) (fun c9 => ?_) (fun c9 => ?_)
    · have h := (if_pos c9).symm.trans h
      refine lv_iconst (v := (0 : Int32)) hx hb dX4_hasRoad_22 k_iconst_0 ?_
      have hres := Option.some.inj h
      subst hres
      exact hRet 23 nz0 _ _ _ hP hD hS dX4_hasRoad_23
    · have h := (if_neg c9).symm.trans h
      refine lv_iload_n hx hb dX4_hasRoad_12 rfl (lv_at hl 1 rfl) ?_
      refine lv_bipush (v := (9 : Int32)) hx hb dX4_hasRoad_13 k_bipush_9 ?_
      refine lv_icmp_ge (tgt := 22) hx hb dX4_hasRoad_15 (by decide) (fun c15 => ?_) (fun c15 => ?_)
      · have h := (if_pos c15).symm.trans h
        refine lv_iconst (v := (0 : Int32)) hx hb dX4_hasRoad_22 k_iconst_0 ?_
        have hres := Option.some.inj h
        subst hres
        exact hRet 23 nz0 _ _ _ hP hD hS dX4_hasRoad_23
      · have h := (if_neg c15).symm.trans h
        refine lv_iconst (v := (1 : Int32)) hx hb dX4_hasRoad_18 k_iconst_1 ?_
        refine lv_goto (tgt := 23) hx hb dX4_hasRoad_19 (by decide) ?_
        have hres := Option.some.inj h
        subst hres
        exact hRet 23 nz1 _ _ _ hP hD hS dX4_hasRoad_23
abbrev rm_X4_roadStart : Room := { frames := 1, cells := 0, slots := 0, locals := 21 }
theorem fi_X4_roadStart_X4 : ∀ w ∈ wsX40, w ∈ wsX4_roadStart := fun _ h => List.mem_cons_of_mem _ (List.mem_append_right _ h)
theorem hdV_X4_roadStart : yX4_roadStart.cls = RX4 ∧ yX4_roadStart.cls ≠ "java/lang/invoke/MethodHandle" ∧ yX4_roadStart.cls ≠ "java/lang/invoke/VarHandle" ∧ (parseMethodDescriptor yX4_roadStart.desc).map (fun d => d.parameters.length) = some 1 := by decide +kernel
set_option maxRecDepth 100000 in
set_option maxHeartbeats 4000000 in
theorem c_X4_roadStart (l : Launch) (G : va_G) (cI cZ : ClassId) (aW : Nat → Nat) (vW : Ob) (x1 : Int32) (res : Int32) (h : m_X4_roadStart vW x1 = some res) : Ct l yX4_roadStart wsX4_roadStart rm_X4_roadStart G cI cZ [.ref (aW 0), .int x1] [oX4 aW vW, ai cI (aW 8) 9 (vW 8)] (some (.int res)) [oX4 aW vW, ai cI (aW 8) 9 (vW 8)] := by
  refine Ct.of_i (maxL := 2) (by decide) rfl (Nat.le_of_ble_eq_true rfl) ?_
  intro p e s m below meth c args hx hb hml hown hts A hA hEN hP hD hS Q hRet ls hl
  have hown : s.vm.findClass RX4 = some m.cls := hown
  have hl : lv_has ls 2 [(0, .ref (aW 0)), (1, .int x1)] := hl
  unfold m_X4_roadStart at h
  refine lv_aload_n hx hb dX4_roadStart_0 rfl (lv_at hl 0 rfl) ?_
  refine lv_iload_n hx hb dX4_roadStart_1 rfl (lv_at hl 1 rfl) ?_
  obtain ⟨o2, ho2, h⟩ := bnd_some h
  refine call_V0 (As := [.int x1]) (rest := []) ⟨hx, hb, hml, hown, hts⟩ (c_X4_hasRoad l G cI cZ aW vW x1 o2 ho2) (cwV 1 hts gX4_roadStart_X4_hasRoad rfl rfl rfl hdV_X4_hasRoad ⟨Nat.le_of_ble_eq_true rfl, Nat.le_of_ble_eq_true rfl⟩) hEN hA hP hD hS [0] rfl (by decide) 0 rfl rfl rfl hl.1 rfl (Nat.le_of_ble_eq_true rfl) dX4_roadStart_2 ⟨Nat.le_of_ble_eq_true rfl, Nat.le_of_ble_eq_true rfl⟩ (fun H locs hP hS => ?_)
  refine lv_if_eq (tgt := 17) hx hb dX4_roadStart_5 (by decide) (fun c5 => ?_) (fun c5 => ?_)
  · have h := (if_pos c5).symm.trans h
    refine lv_bipush (v := (-9 : Int32)) hx hb dX4_roadStart_17 k_bipush_n9 ?_
    have hres := Option.some.inj h
    subst hres
    exact hRet 19 _ _ _ hP hD hS dX4_roadStart_19
  · have h := (if_neg c5).symm.trans h
    refine lv_aload_n hx hb dX4_roadStart_8 rfl (lv_at hl 0 rfl) ?_
    refine va_get (D := G) (ci := 4) (v := .ref (aW 8)) (C := RX4) (T := TX4) (N := 13) hx hb hts fi_X4_roadStart_X4 hown hEN.1 hP 0 rfl rfl 7 (by decide) (hts (.fieldLink RX4 21 "HourWell$World" "starts" "[I") (List.mem_of_getElem? (i := 1) rfl)) (fun _ h9 => h9) rfl dX4_roadStart_9 ?_
    refine lv_iload_n hx hb dX4_roadStart_12 rfl (lv_at hl 1 rfl) ?_
    obtain ⟨hg13, h⟩ := grd_some h
    refine va_iald (f := (vW 8)) hx hb hEN.1 hP 1 0 rfl rfl (inb_in hg13) dX4_roadStart_13 ?_
    refine lv_goto (tgt := 19) hx hb dX4_roadStart_14 (by decide) ?_
    have hres := Option.some.inj h
    subst hres
    exact hRet 19 _ _ _ hP hD hS dX4_roadStart_19
abbrev rm_X4_roadEnd : Room := { frames := 1, cells := 0, slots := 0, locals := 21 }
theorem fi_X4_roadEnd_X4 : ∀ w ∈ wsX40, w ∈ wsX4_roadEnd := fun _ h => List.mem_cons_of_mem _ (List.mem_append_right _ h)
theorem hdV_X4_roadEnd : yX4_roadEnd.cls = RX4 ∧ yX4_roadEnd.cls ≠ "java/lang/invoke/MethodHandle" ∧ yX4_roadEnd.cls ≠ "java/lang/invoke/VarHandle" ∧ (parseMethodDescriptor yX4_roadEnd.desc).map (fun d => d.parameters.length) = some 1 := by decide +kernel
set_option maxRecDepth 100000 in
set_option maxHeartbeats 4000000 in
theorem c_X4_roadEnd (l : Launch) (G : va_G) (cI cZ : ClassId) (aW : Nat → Nat) (vW : Ob) (x1 : Int32) (res : Int32) (h : m_X4_roadEnd vW x1 = some res) : Ct l yX4_roadEnd wsX4_roadEnd rm_X4_roadEnd G cI cZ [.ref (aW 0), .int x1] [oX4 aW vW, ai cI (aW 9) 9 (vW 9)] (some (.int res)) [oX4 aW vW, ai cI (aW 9) 9 (vW 9)] := by
  refine Ct.of_i (maxL := 2) (by decide) rfl (Nat.le_of_ble_eq_true rfl) ?_
  intro p e s m below meth c args hx hb hml hown hts A hA hEN hP hD hS Q hRet ls hl
  have hown : s.vm.findClass RX4 = some m.cls := hown
  have hl : lv_has ls 2 [(0, .ref (aW 0)), (1, .int x1)] := hl
  unfold m_X4_roadEnd at h
  refine lv_aload_n hx hb dX4_roadEnd_0 rfl (lv_at hl 0 rfl) ?_
  refine lv_iload_n hx hb dX4_roadEnd_1 rfl (lv_at hl 1 rfl) ?_
  obtain ⟨o2, ho2, h⟩ := bnd_some h
  refine call_V0 (As := [.int x1]) (rest := []) ⟨hx, hb, hml, hown, hts⟩ (c_X4_hasRoad l G cI cZ aW vW x1 o2 ho2) (cwV 1 hts gX4_roadEnd_X4_hasRoad rfl rfl rfl hdV_X4_hasRoad ⟨Nat.le_of_ble_eq_true rfl, Nat.le_of_ble_eq_true rfl⟩) hEN hA hP hD hS [0] rfl (by decide) 0 rfl rfl rfl hl.1 rfl (Nat.le_of_ble_eq_true rfl) dX4_roadEnd_2 ⟨Nat.le_of_ble_eq_true rfl, Nat.le_of_ble_eq_true rfl⟩ (fun H locs hP hS => ?_)
  refine lv_if_eq (tgt := 17) hx hb dX4_roadEnd_5 (by decide) (fun c5 => ?_) (fun c5 => ?_)
  · have h := (if_pos c5).symm.trans h
    refine lv_bipush (v := (-9 : Int32)) hx hb dX4_roadEnd_17 k_bipush_n9 ?_
    have hres := Option.some.inj h
    subst hres
    exact hRet 19 _ _ _ hP hD hS dX4_roadEnd_19
  · have h := (if_neg c5).symm.trans h
    refine lv_aload_n hx hb dX4_roadEnd_8 rfl (lv_at hl 0 rfl) ?_
    refine va_get (D := G) (ci := 4) (v := .ref (aW 9)) (C := RX4) (T := TX4) (N := 13) hx hb hts fi_X4_roadEnd_X4 hown hEN.1 hP 0 rfl rfl 8 (by decide) (hts (.fieldLink RX4 24 "HourWell$World" "ends" "[I") (List.mem_of_getElem? (i := 1) rfl)) (fun _ h9 => h9) rfl dX4_roadEnd_9 ?_
    refine lv_iload_n hx hb dX4_roadEnd_12 rfl (lv_at hl 1 rfl) ?_
    obtain ⟨hg13, h⟩ := grd_some h
    refine va_iald (f := (vW 9)) hx hb hEN.1 hP 1 0 rfl rfl (inb_in hg13) dX4_roadEnd_13 ?_
    refine lv_goto (tgt := 19) hx hb dX4_roadEnd_14 (by decide) ?_
    have hres := Option.some.inj h
    subst hres
    exact hRet 19 _ _ _ hP hD hS dX4_roadEnd_19
abbrev rm_X4_roadHours : Room := { frames := 1, cells := 0, slots := 0, locals := 21 }
theorem fi_X4_roadHours_X4 : ∀ w ∈ wsX40, w ∈ wsX4_roadHours := fun _ h => List.mem_cons_of_mem _ (List.mem_append_right _ h)
theorem hdV_X4_roadHours : yX4_roadHours.cls = RX4 ∧ yX4_roadHours.cls ≠ "java/lang/invoke/MethodHandle" ∧ yX4_roadHours.cls ≠ "java/lang/invoke/VarHandle" ∧ (parseMethodDescriptor yX4_roadHours.desc).map (fun d => d.parameters.length) = some 1 := by decide +kernel
set_option maxRecDepth 100000 in
set_option maxHeartbeats 4000000 in
theorem c_X4_roadHours (l : Launch) (G : va_G) (cI cZ : ClassId) (aW : Nat → Nat) (vW : Ob) (x1 : Int32) (res : Int32) (h : m_X4_roadHours vW x1 = some res) : Ct l yX4_roadHours wsX4_roadHours rm_X4_roadHours G cI cZ [.ref (aW 0), .int x1] [oX4 aW vW, ai cI (aW 10) 9 (vW 10)] (some (.int res)) [oX4 aW vW, ai cI (aW 10) 9 (vW 10)] := by
  refine Ct.of_i (maxL := 2) (by decide) rfl (Nat.le_of_ble_eq_true rfl) ?_
  intro p e s m below meth c args hx hb hml hown hts A hA hEN hP hD hS Q hRet ls hl
  have hown : s.vm.findClass RX4 = some m.cls := hown
  have hl : lv_has ls 2 [(0, .ref (aW 0)), (1, .int x1)] := hl
  unfold m_X4_roadHours at h
  refine lv_aload_n hx hb dX4_roadHours_0 rfl (lv_at hl 0 rfl) ?_
  refine lv_iload_n hx hb dX4_roadHours_1 rfl (lv_at hl 1 rfl) ?_
  obtain ⟨o2, ho2, h⟩ := bnd_some h
  refine call_V0 (As := [.int x1]) (rest := []) ⟨hx, hb, hml, hown, hts⟩ (c_X4_hasRoad l G cI cZ aW vW x1 o2 ho2) (cwV 1 hts gX4_roadHours_X4_hasRoad rfl rfl rfl hdV_X4_hasRoad ⟨Nat.le_of_ble_eq_true rfl, Nat.le_of_ble_eq_true rfl⟩) hEN hA hP hD hS [0] rfl (by decide) 0 rfl rfl rfl hl.1 rfl (Nat.le_of_ble_eq_true rfl) dX4_roadHours_2 ⟨Nat.le_of_ble_eq_true rfl, Nat.le_of_ble_eq_true rfl⟩ (fun H locs hP hS => ?_)
  refine lv_if_eq (tgt := 17) hx hb dX4_roadHours_5 (by decide) (fun c5 => ?_) (fun c5 => ?_)
  · have h := (if_pos c5).symm.trans h
    refine lv_iconst (v := (0 : Int32)) hx hb dX4_roadHours_17 k_iconst_0 ?_
    have hres := Option.some.inj h
    subst hres
    exact hRet 18 _ _ _ hP hD hS dX4_roadHours_18
  · have h := (if_neg c5).symm.trans h
    refine lv_aload_n hx hb dX4_roadHours_8 rfl (lv_at hl 0 rfl) ?_
    refine va_get (D := G) (ci := 4) (v := .ref (aW 10)) (C := RX4) (T := TX4) (N := 13) hx hb hts fi_X4_roadHours_X4 hown hEN.1 hP 0 rfl rfl 9 (by decide) (hts (.fieldLink RX4 27 "HourWell$World" "lengths" "[I") (List.mem_of_getElem? (i := 1) rfl)) (fun _ h9 => h9) rfl dX4_roadHours_9 ?_
    refine lv_iload_n hx hb dX4_roadHours_12 rfl (lv_at hl 1 rfl) ?_
    obtain ⟨hg13, h⟩ := grd_some h
    refine va_iald (f := (vW 10)) hx hb hEN.1 hP 1 0 rfl rfl (inb_in hg13) dX4_roadHours_13 ?_
    refine lv_goto (tgt := 18) hx hb dX4_roadHours_14 (by decide) ?_
    have hres := Option.some.inj h
    subst hres
    exact hRet 18 _ _ _ hP hD hS dX4_roadHours_18
abbrev rm_X4_isOpen : Room := { frames := 1, cells := 0, slots := 0, locals := 22 }
theorem fi_X4_isOpen_X4 : ∀ w ∈ wsX40, w ∈ wsX4_isOpen := fun _ h => List.mem_cons_of_mem _ (List.mem_append_right _ h)
theorem hdV_X4_isOpen : yX4_isOpen.cls = RX4 ∧ yX4_isOpen.cls ≠ "java/lang/invoke/MethodHandle" ∧ yX4_isOpen.cls ≠ "java/lang/invoke/VarHandle" ∧ (parseMethodDescriptor yX4_isOpen.desc).map (fun d => d.parameters.length) = some 2 := by decide +kernel
set_option maxRecDepth 100000 in
set_option maxHeartbeats 4000000 in
theorem c_X4_isOpen (l : Launch) (G : va_G) (cI cZ : ClassId) (aW : Nat → Nat) (vW : Ob) (x1 : Int32) (x2 : Int32) (res : Int32) (h : m_X4_isOpen vW x1 x2 = some res) : Ct l yX4_isOpen wsX4_isOpen rm_X4_isOpen G cI cZ [.ref (aW 0), .int x1, .int x2] [oX4 aW vW, ai cI (aW 6) 7 (vW 6), ai cI (aW 7) 7 (vW 7)] (some (.int res)) [oX4 aW vW, ai cI (aW 6) 7 (vW 6), ai cI (aW 7) 7 (vW 7)] := by
  refine Ct.of_z (maxL := 3) (by decide) rfl (Nat.le_of_ble_eq_true rfl) ?_
  intro p e s m below meth c args hx hb hml hown hts A hA hEN hP hD hS Q hRet ls hl
  have hown : s.vm.findClass RX4 = some m.cls := hown
  have hl : lv_has ls 3 [(0, .ref (aW 0)), (1, .int x1), (2, .int x2)] := hl
  unfold m_X4_isOpen at h
  refine lv_aload_n hx hb dX4_isOpen_0 rfl (lv_at hl 0 rfl) ?_
  refine lv_iload_n hx hb dX4_isOpen_1 rfl (lv_at hl 1 rfl) ?_
  obtain ⟨o2, ho2, h⟩ := bnd_some h
  refine call_V0 (As := [.int x1]) (rest := []) ⟨hx, hb, hml, hown, hts⟩ (c_X4_hasPlace l G cI cZ aW vW x1 o2 ho2) (cwV 1 hts gX4_isOpen_X4_hasPlace rfl rfl rfl hdV_X4_hasPlace ⟨Nat.le_of_ble_eq_true rfl, Nat.le_of_ble_eq_true rfl⟩) hEN hA hP hD hS [0] rfl (by decide) 0 rfl rfl rfl hl.1 rfl (Nat.le_of_ble_eq_true rfl) dX4_isOpen_2 ⟨Nat.le_of_ble_eq_true rfl, Nat.le_of_ble_eq_true rfl⟩ (fun H locs hP hS => ?_)
  refine lv_if_eq (tgt := 19) hx hb dX4_isOpen_5 (by decide) (fun c5 => ?_) (fun c5 => ?_)
  · have h := (if_pos c5).symm.trans h
    refine lv_iconst (v := (1 : Int32)) hx hb dX4_isOpen_19 k_iconst_1 ?_
    have hres := Option.some.inj h
    subst hres
    exact hRet 20 nz1 _ _ _ hP hD hS dX4_isOpen_20
  · have h := (if_neg c5).symm.trans h
    refine lv_aload_n hx hb dX4_isOpen_8 rfl (lv_at hl 0 rfl) ?_
    refine va_get (D := G) (ci := 4) (v := .ref (aW 6)) (C := RX4) (T := TX4) (N := 13) hx hb hts fi_X4_isOpen_X4 hown hEN.1 hP 0 rfl rfl 5 (by decide) (hts (.fieldLink RX4 15 "HourWell$World" "gateFrom" "[I") (List.mem_of_getElem? (i := 1) rfl)) (fun _ h9 => h9) rfl dX4_isOpen_9 ?_
    refine lv_iload_n hx hb dX4_isOpen_12 rfl (lv_at hl 1 rfl) ?_
    obtain ⟨hg13, h⟩ := grd_some h
    refine va_iald (f := (vW 6)) hx hb hEN.1 hP 1 0 rfl rfl (inb_in hg13) dX4_isOpen_13 ?_
    refine lv_bipush (v := (-9 : Int32)) hx hb dX4_isOpen_14 k_bipush_n9 ?_
    refine lv_icmp_ne (tgt := 21) hx hb dX4_isOpen_16 (by decide) (fun c16 => ?_) (fun c16 => ?_)
    · have h := (if_neg c16).symm.trans h
      refine lv_iload_n hx hb dX4_isOpen_21 rfl (lv_at hl 2 rfl) ?_
      refine lv_aload_n hx hb dX4_isOpen_22 rfl (lv_at hl 0 rfl) ?_
      refine va_get (D := G) (ci := 4) (v := .ref (aW 6)) (C := RX4) (T := TX4) (N := 13) hx hb hts fi_X4_isOpen_X4 hown hEN.1 hP 0 rfl rfl 5 (by decide) (hts (.fieldLink RX4 15 "HourWell$World" "gateFrom" "[I") (List.mem_of_getElem? (i := 1) rfl)) (fun _ h9 => h9) rfl dX4_isOpen_23 ?_
      refine lv_iload_n hx hb dX4_isOpen_26 rfl (lv_at hl 1 rfl) ?_
      obtain ⟨hg27, h⟩ := grd_some h
      refine va_iald (f := (vW 6)) hx hb hEN.1 hP 1 0 rfl rfl (inb_in hg27) dX4_isOpen_27 ?_
      refine lv_isub hx hb dX4_isOpen_28 ?_
      refine lv_bipush (v := (24 : Int32)) hx hb dX4_isOpen_29 k_bipush_24 ?_
      obtain ⟨o31, ho31, h⟩ := bnd_some h
      refine call_S0 (As := [.int (x2 - ((vW 6) (Int32.toNatClampNeg x1))), .int (24 : Int32)]) (rest := []) ⟨hx, hb, hml, hown, hts⟩ (c_J9_floorMod_7cf53 l G cI cZ  (x2 - ((vW 6) (Int32.toNatClampNeg x1))) (24 : Int32) o31 ho31) (va_cwS 2 hts gX4_isOpen_J9_floorMod_7cf53 rfl rfl rfl hdS_J9_floorMod_7cf53 ⟨Nat.le_of_ble_eq_true rfl, Nat.le_of_ble_eq_true rfl⟩) hEN hA hP hD hS [] rfl (by decide) rfl hl.1 rfl (Nat.le_of_ble_eq_true rfl) dX4_isOpen_31 ⟨Nat.le_of_ble_eq_true rfl, Nat.le_of_ble_eq_true rfl⟩ (fun H locs hP hS => ?_)
      refine lv_aload_n hx hb dX4_isOpen_34 rfl (lv_at hl 0 rfl) ?_
      refine va_get (D := G) (ci := 4) (v := .ref (aW 7)) (C := RX4) (T := TX4) (N := 13) hx hb hts fi_X4_isOpen_X4 hown hEN.1 hP 0 rfl rfl 6 (by decide) (hts (.fieldLink RX4 18 "HourWell$World" "gateHours" "[I") (List.mem_of_getElem? (i := 2) rfl)) (fun _ h9 => h9) rfl dX4_isOpen_35 ?_
      refine lv_iload_n hx hb dX4_isOpen_38 rfl (lv_at hl 1 rfl) ?_
      obtain ⟨hg39, h⟩ := grd_some h
      refine va_iald (f := (vW 7)) hx hb hEN.1 hP 2 0 rfl rfl (inb_in hg39) dX4_isOpen_39 ?_
      refine lv_icmp_ge (tgt := 47) hx hb dX4_isOpen_40 (by decide) (fun c40 => ?_) (fun c40 => ?_)
      · have h := (if_pos c40).symm.trans h
        refine lv_iconst (v := (0 : Int32)) hx hb dX4_isOpen_47 k_iconst_0 ?_
        have hres := Option.some.inj h
        subst hres
        exact hRet 48 nz0 _ _ _ hP hD hS dX4_isOpen_48
      · have h := (if_neg c40).symm.trans h
        refine lv_iconst (v := (1 : Int32)) hx hb dX4_isOpen_43 k_iconst_1 ?_
        refine lv_goto (tgt := 48) hx hb dX4_isOpen_44 (by decide) ?_
        have hres := Option.some.inj h
        subst hres
        exact hRet 48 nz1 _ _ _ hP hD hS dX4_isOpen_48
    · have h := (if_pos c16).symm.trans h
      refine lv_iconst (v := (1 : Int32)) hx hb dX4_isOpen_19 k_iconst_1 ?_
      have hres := Option.some.inj h
      subst hres
      exact hRet 20 nz1 _ _ _ hP hD hS dX4_isOpen_20
abbrev rm_X4_farEnd : Room := { frames := 1, cells := 0, slots := 0, locals := 21 }
theorem fi_X4_farEnd_X4 : ∀ w ∈ wsX40, w ∈ wsX4_farEnd := fun _ h => List.mem_cons_of_mem _ (List.mem_append_right _ h)
theorem hdV_X4_farEnd : yX4_farEnd.cls = RX4 ∧ yX4_farEnd.cls ≠ "java/lang/invoke/MethodHandle" ∧ yX4_farEnd.cls ≠ "java/lang/invoke/VarHandle" ∧ (parseMethodDescriptor yX4_farEnd.desc).map (fun d => d.parameters.length) = some 2 := by decide +kernel
set_option maxRecDepth 100000 in
set_option maxHeartbeats 4000000 in
theorem c_X4_farEnd (l : Launch) (G : va_G) (cI cZ : ClassId) (aW : Nat → Nat) (vW : Ob) (x1 : Int32) (x2 : Int32) (res : Int32) (h : m_X4_farEnd vW x1 x2 = some res) : Ct l yX4_farEnd wsX4_farEnd rm_X4_farEnd G cI cZ [.ref (aW 0), .int x1, .int x2] [oX4 aW vW, ai cI (aW 8) 9 (vW 8), ai cI (aW 9) 9 (vW 9)] (some (.int res)) [oX4 aW vW, ai cI (aW 8) 9 (vW 8), ai cI (aW 9) 9 (vW 9)] := by
  refine Ct.of_i (maxL := 3) (by decide) rfl (Nat.le_of_ble_eq_true rfl) ?_
  intro p e s m below meth c args hx hb hml hown hts A hA hEN hP hD hS Q hRet ls hl
  have hown : s.vm.findClass RX4 = some m.cls := hown
  have hl : lv_has ls 3 [(0, .ref (aW 0)), (1, .int x1), (2, .int x2)] := hl
  unfold m_X4_farEnd at h
  refine lv_aload_n hx hb dX4_farEnd_0 rfl (lv_at hl 0 rfl) ?_
  refine lv_iload_n hx hb dX4_farEnd_1 rfl (lv_at hl 1 rfl) ?_
  obtain ⟨o2, ho2, h⟩ := bnd_some h
  refine call_V0 (As := [.int x1]) (rest := []) ⟨hx, hb, hml, hown, hts⟩ (c_X4_hasRoad l G cI cZ aW vW x1 o2 ho2) (cwV 1 hts gX4_farEnd_X4_hasRoad rfl rfl rfl hdV_X4_hasRoad ⟨Nat.le_of_ble_eq_true rfl, Nat.le_of_ble_eq_true rfl⟩) hEN hA hP hD hS [0] rfl (by decide) 0 rfl rfl rfl hl.1 rfl (Nat.le_of_ble_eq_true rfl) dX4_farEnd_2 ⟨Nat.le_of_ble_eq_true rfl, Nat.le_of_ble_eq_true rfl⟩ (fun H locs hP hS => ?_)
  refine lv_if_ne (tgt := 11) hx hb dX4_farEnd_5 (by decide) (fun c5 => ?_) (fun c5 => ?_)
  · have h := (if_neg c5).symm.trans h
    refine lv_aload_n hx hb dX4_farEnd_11 rfl (lv_at hl 0 rfl) ?_
    refine va_get (D := G) (ci := 4) (v := .ref (aW 8)) (C := RX4) (T := TX4) (N := 13) hx hb hts fi_X4_farEnd_X4 hown hEN.1 hP 0 rfl rfl 7 (by decide) (hts (.fieldLink RX4 21 "HourWell$World" "starts" "[I") (List.mem_of_getElem? (i := 1) rfl)) (fun _ h9 => h9) rfl dX4_farEnd_12 ?_
    refine lv_iload_n hx hb dX4_farEnd_15 rfl (lv_at hl 1 rfl) ?_
    obtain ⟨hg16, h⟩ := grd_some h
    refine va_iald (f := (vW 8)) hx hb hEN.1 hP 1 0 rfl rfl (inb_in hg16) dX4_farEnd_16 ?_
    refine lv_iload_n hx hb dX4_farEnd_17 rfl (lv_at hl 2 rfl) ?_
    refine lv_icmp_ne (tgt := 28) hx hb dX4_farEnd_18 (by decide) (fun c18 => ?_) (fun c18 => ?_)
    · have h := (if_neg c18).symm.trans h
      refine lv_aload_n hx hb dX4_farEnd_28 rfl (lv_at hl 0 rfl) ?_
      refine va_get (D := G) (ci := 4) (v := .ref (aW 9)) (C := RX4) (T := TX4) (N := 13) hx hb hts fi_X4_farEnd_X4 hown hEN.1 hP 0 rfl rfl 8 (by decide) (hts (.fieldLink RX4 24 "HourWell$World" "ends" "[I") (List.mem_of_getElem? (i := 2) rfl)) (fun _ h9 => h9) rfl dX4_farEnd_29 ?_
      refine lv_iload_n hx hb dX4_farEnd_32 rfl (lv_at hl 1 rfl) ?_
      obtain ⟨hg33, h⟩ := grd_some h
      refine va_iald (f := (vW 9)) hx hb hEN.1 hP 2 0 rfl rfl (inb_in hg33) dX4_farEnd_33 ?_
      refine lv_iload_n hx hb dX4_farEnd_34 rfl (lv_at hl 2 rfl) ?_
      refine lv_icmp_ne (tgt := 47) hx hb dX4_farEnd_35 (by decide) (fun c35 => ?_) (fun c35 => ?_)
      · have h := (if_neg c35).symm.trans h
        refine lv_bipush (v := (-9 : Int32)) hx hb dX4_farEnd_47 k_bipush_n9 ?_
        have hres := Option.some.inj h
        subst hres
        exact hRet 49 _ _ _ hP hD hS dX4_farEnd_49
      · have h := (if_pos c35).symm.trans h
        refine lv_aload_n hx hb dX4_farEnd_38 rfl (lv_at hl 0 rfl) ?_
        refine va_get (D := G) (ci := 4) (v := .ref (aW 8)) (C := RX4) (T := TX4) (N := 13) hx hb hts fi_X4_farEnd_X4 hown hEN.1 hP 0 rfl rfl 7 (by decide) (hts (.fieldLink RX4 21 "HourWell$World" "starts" "[I") (List.mem_of_getElem? (i := 1) rfl)) (fun _ h9 => h9) rfl dX4_farEnd_39 ?_
        refine lv_iload_n hx hb dX4_farEnd_42 rfl (lv_at hl 1 rfl) ?_
        obtain ⟨hg43, h⟩ := grd_some h
        refine va_iald (f := (vW 8)) hx hb hEN.1 hP 1 0 rfl rfl (inb_in hg43) dX4_farEnd_43 ?_
        refine lv_goto (tgt := 49) hx hb dX4_farEnd_44 (by decide) ?_
        have hres := Option.some.inj h
        subst hres
        exact hRet 49 _ _ _ hP hD hS dX4_farEnd_49
    · have h := (if_pos c18).symm.trans h
      refine lv_aload_n hx hb dX4_farEnd_21 rfl (lv_at hl 0 rfl) ?_
      refine va_get (D := G) (ci := 4) (v := .ref (aW 9)) (C := RX4) (T := TX4) (N := 13) hx hb hts fi_X4_farEnd_X4 hown hEN.1 hP 0 rfl rfl 8 (by decide) (hts (.fieldLink RX4 24 "HourWell$World" "ends" "[I") (List.mem_of_getElem? (i := 2) rfl)) (fun _ h9 => h9) rfl dX4_farEnd_22 ?_
      refine lv_iload_n hx hb dX4_farEnd_25 rfl (lv_at hl 1 rfl) ?_
      obtain ⟨hg26, h⟩ := grd_some h
      refine va_iald (f := (vW 9)) hx hb hEN.1 hP 2 0 rfl rfl (inb_in hg26) dX4_farEnd_26 ?_
      have hres := Option.some.inj h
      subst hres
      exact hRet 27 _ _ _ hP hD hS dX4_farEnd_27
  · have h := (if_pos c5).symm.trans h
    refine lv_bipush (v := (-9 : Int32)) hx hb dX4_farEnd_8 k_bipush_n9 ?_
    have hres := Option.some.inj h
    subst hres
    exact hRet 10 _ _ _ hP hD hS dX4_farEnd_10
abbrev rm_X4_letsIn : Room := { frames := 2, cells := 0, slots := 0, locals := 44 }
theorem fi_X4_letsIn_X4 : ∀ w ∈ wsX40, w ∈ wsX4_letsIn := fun _ h => List.mem_cons_of_mem _ (List.mem_append_right _ h)
theorem hdV_X4_letsIn : yX4_letsIn.cls = RX4 ∧ yX4_letsIn.cls ≠ "java/lang/invoke/MethodHandle" ∧ yX4_letsIn.cls ≠ "java/lang/invoke/VarHandle" ∧ (parseMethodDescriptor yX4_letsIn.desc).map (fun d => d.parameters.length) = some 3 := by decide +kernel
set_option maxRecDepth 100000 in
set_option maxHeartbeats 4000000 in
theorem c_X4_letsIn (l : Launch) (G : va_G) (cI cZ : ClassId) (aW : Nat → Nat) (vW : Ob) (x1 : Int32) (x2 : Int32) (x3 : Int32) (res : Int32) (h : m_X4_letsIn vW x1 x2 x3 = some res) : Ct l yX4_letsIn wsX4_letsIn rm_X4_letsIn G cI cZ [.ref (aW 0), .int x1, .int x2, .int x3] [oX4 aW vW, ai cI (aW 5) 7 (vW 5), ai cI (aW 6) 7 (vW 6), ai cI (aW 7) 7 (vW 7)] (some (.int res)) [oX4 aW vW, ai cI (aW 5) 7 (vW 5), ai cI (aW 6) 7 (vW 6), ai cI (aW 7) 7 (vW 7)] := by
  refine Ct.of_z (maxL := 4) (by decide) rfl (Nat.le_of_ble_eq_true rfl) ?_
  intro p e s m below meth c args hx hb hml hown hts A hA hEN hP hD hS Q hRet ls hl
  have hown : s.vm.findClass RX4 = some m.cls := hown
  have hl : lv_has ls 4 [(0, .ref (aW 0)), (1, .int x1), (2, .int x2), (3, .int x3)] := hl
  unfold m_X4_letsIn at h
  refine lv_aload_n hx hb dX4_letsIn_0 rfl (lv_at hl 0 rfl) ?_
  refine lv_iload_n hx hb dX4_letsIn_1 rfl (lv_at hl 1 rfl) ?_
  refine lv_iload_n hx hb dX4_letsIn_2 rfl (lv_at hl 2 rfl) ?_
  obtain ⟨o3, ho3, h⟩ := bnd_some h
  refine call_V0 (As := [.int x1, .int x2]) (rest := []) ⟨hx, hb, hml, hown, hts⟩ (c_X4_isOpen l G cI cZ aW vW x1 x2 o3 ho3) (cwV 2 hts gX4_letsIn_X4_isOpen rfl rfl rfl hdV_X4_isOpen ⟨Nat.le_of_ble_eq_true rfl, Nat.le_of_ble_eq_true rfl⟩) hEN hA hP hD hS [0, 2, 3] rfl (by decide) 0 rfl rfl rfl hl.1 rfl (Nat.le_of_ble_eq_true rfl) dX4_letsIn_3 ⟨Nat.le_of_ble_eq_true rfl, Nat.le_of_ble_eq_true rfl⟩ (fun H locs hP hS => ?_)
  refine lv_if_eq (tgt := 25) hx hb dX4_letsIn_6 (by decide) (fun c6 => ?_) (fun c6 => ?_)
  · have h := (if_pos c6).symm.trans h
    refine lv_iconst (v := (0 : Int32)) hx hb dX4_letsIn_25 k_iconst_0 ?_
    have hres := Option.some.inj h
    subst hres
    exact hRet 26 nz0 _ _ _ hP hD hS dX4_letsIn_26
  · have h := (if_neg c6).symm.trans h
    refine lv_iload_n hx hb dX4_letsIn_9 rfl (lv_at hl 3 rfl) ?_
    refine lv_aload_n hx hb dX4_letsIn_10 rfl (lv_at hl 0 rfl) ?_
    refine lv_iload_n hx hb dX4_letsIn_11 rfl (lv_at hl 1 rfl) ?_
    obtain ⟨o12, ho12, h⟩ := bnd_some h
    refine call_V0 (As := [.int x1]) (rest := [.int x3]) ⟨hx, hb, hml, hown, hts⟩ (c_X4_lionAt l G cI cZ aW vW x1 o12 ho12) (cwV 1 hts gX4_letsIn_X4_lionAt rfl rfl rfl hdV_X4_lionAt ⟨Nat.le_of_ble_eq_true rfl, Nat.le_of_ble_eq_true rfl⟩) hEN hA hP hD hS [0, 1] rfl (by decide) 0 rfl rfl rfl hl.1 rfl (Nat.le_of_ble_eq_true rfl) dX4_letsIn_12 ⟨Nat.le_of_ble_eq_true rfl, Nat.le_of_ble_eq_true rfl⟩ (fun H locs hP hS => ?_)
    obtain ⟨o15, ho15, h⟩ := bnd_some h
    refine call_SN0 (As := [.int x3, .int o12]) (rest := []) ⟨hx, hb, hml, hown, hts⟩ (c_X5_hasThing l G cI cZ  x3 o12 o15 ho15) ⟨va_cnB 2 hts gX4_letsIn_X5_hasThing_n86 rfl rfl rfl (hEN.2.1 _ (List.mem_of_getElem? (i := 10) rfl)) (hts (.initialized RX5) (List.mem_of_getElem? (i := 23) rfl)) hdS_X5_hasThing ⟨Nat.le_of_ble_eq_true rfl, Nat.le_of_ble_eq_true rfl⟩, hts (.static yX5_hasThing) (List.mem_of_getElem? (i := 22) rfl), trivial⟩ hEN hA hP hD hS [] rfl (by decide) rfl hl.1 rfl (Nat.le_of_ble_eq_true rfl) dX4_letsIn_15 ⟨Nat.le_of_ble_eq_true rfl, Nat.le_of_ble_eq_true rfl⟩ (fun H locs hP hS => ?_)
    refine lv_if_eq (tgt := 25) hx hb dX4_letsIn_18 (by decide) (fun c18 => ?_) (fun c18 => ?_)
    · have h := (if_pos c18).symm.trans h
      refine lv_iconst (v := (0 : Int32)) hx hb dX4_letsIn_25 k_iconst_0 ?_
      have hres := Option.some.inj h
      subst hres
      exact hRet 26 nz0 _ _ _ hP hD hS dX4_letsIn_26
    · have h := (if_neg c18).symm.trans h
      refine lv_iconst (v := (1 : Int32)) hx hb dX4_letsIn_21 k_iconst_1 ?_
      refine lv_goto (tgt := 26) hx hb dX4_letsIn_22 (by decide) ?_
      have hres := Option.some.inj h
      subst hres
      exact hRet 26 nz1 _ _ _ hP hD hS dX4_letsIn_26
abbrev rm_X4_thingsInside : Room := { frames := 2, cells := 0, slots := 0, locals := 42 }
theorem fi_X4_thingsInside_X4 : ∀ w ∈ wsX40, w ∈ wsX4_thingsInside := fun _ h => List.mem_cons_of_mem _ (List.mem_append_right _ h)
theorem hdV_X4_thingsInside : yX4_thingsInside.cls = RX4 ∧ yX4_thingsInside.cls ≠ "java/lang/invoke/MethodHandle" ∧ yX4_thingsInside.cls ≠ "java/lang/invoke/VarHandle" ∧ (parseMethodDescriptor yX4_thingsInside.desc).map (fun d => d.parameters.length) = some 2 := by decide +kernel
set_option maxRecDepth 100000 in
set_option maxHeartbeats 4000000 in
theorem c_X4_thingsInside (l : Launch) (G : va_G) (cI cZ : ClassId) (aW : Nat → Nat) (vW : Ob) (x1 : Int32) (x2 : Int32) (res : Int32) (h : m_X4_thingsInside vW x1 x2 = some res) : Ct l yX4_thingsInside wsX4_thingsInside rm_X4_thingsInside G cI cZ [.ref (aW 0), .int x1, .int x2] [oX4 aW vW, ai cI (aW 5) 7 (vW 5)] (some (.int res)) [oX4 aW vW, ai cI (aW 5) 7 (vW 5)] := by
  refine Ct.of_i (maxL := 4) (by decide) rfl (Nat.le_of_ble_eq_true rfl) ?_
  intro p e s m below meth c args hx hb hml hown hts A hA hEN hP hD hS Q hRet ls hl
  have hown : s.vm.findClass RX4 = some m.cls := hown
  have hl : lv_has ls 4 [(0, .ref (aW 0)), (1, .int x1), (2, .int x2)] := hl
  unfold m_X4_thingsInside at h
  refine lv_aload_n hx hb dX4_thingsInside_0 rfl (lv_at hl 0 rfl) ?_
  refine lv_iload_n hx hb dX4_thingsInside_1 rfl (lv_at hl 1 rfl) ?_
  obtain ⟨o2, ho2, h⟩ := bnd_some h
  refine call_V0 (As := [.int x1]) (rest := []) ⟨hx, hb, hml, hown, hts⟩ (c_X4_lionAt l G cI cZ aW vW x1 o2 ho2) (cwV 1 hts gX4_thingsInside_X4_lionAt rfl rfl rfl hdV_X4_lionAt ⟨Nat.le_of_ble_eq_true rfl, Nat.le_of_ble_eq_true rfl⟩) hEN hA hP hD hS [0, 1] rfl (by decide) 0 rfl rfl rfl hl.1 rfl (Nat.le_of_ble_eq_true rfl) dX4_thingsInside_2 ⟨Nat.le_of_ble_eq_true rfl, Nat.le_of_ble_eq_true rfl⟩ (fun H locs hP hS => ?_)
  refine lv_istore_n (lv' := [(3, .int o2), (0, .ref (aW 0)), (1, .int x1), (2, .int x2)]) hx hb dX4_thingsInside_5 rfl hl (by decide) rfl (fun ls hl => ?_)
  refine lv_iload_n hx hb dX4_thingsInside_6 rfl (lv_at hl 0 rfl) ?_
  obtain ⟨o7, ho7, h⟩ := bnd_some h
  refine call_SN0 (As := [.int o2]) (rest := []) ⟨hx, hb, hml, hown, hts⟩ (c_X5_isThing l G cI cZ  o2 o7 ho7) ⟨va_cnB 1 hts gX4_thingsInside_X5_isThing_n89 rfl rfl rfl (hEN.2.1 _ (List.mem_of_getElem? (i := 11) rfl)) (hts (.initialized RX5) (List.mem_of_getElem? (i := 13) rfl)) hdS_X5_isThing ⟨Nat.le_of_ble_eq_true rfl, Nat.le_of_ble_eq_true rfl⟩, hts (.static yX5_isThing) (List.mem_of_getElem? (i := 12) rfl), trivial⟩ hEN hA hP hD hS [] rfl (by decide) rfl hl.1 rfl (Nat.le_of_ble_eq_true rfl) dX4_thingsInside_7 ⟨Nat.le_of_ble_eq_true rfl, Nat.le_of_ble_eq_true rfl⟩ (fun H locs hP hS => ?_)
  refine lv_if_eq (tgt := 23) hx hb dX4_thingsInside_10 (by decide) (fun c10 => ?_) (fun c10 => ?_)
  · have h := (if_pos c10).symm.trans h
    refine lv_iload_n hx hb dX4_thingsInside_23 rfl (lv_at hl 3 rfl) ?_
    have hres := Option.some.inj h
    subst hres
    exact hRet 24 _ _ _ hP hD hS dX4_thingsInside_24
  · have h := (if_neg c10).symm.trans h
    refine lv_iload_n hx hb dX4_thingsInside_13 rfl (lv_at hl 3 rfl) ?_
    refine lv_iconst (v := (1 : Int32)) hx hb dX4_thingsInside_14 k_iconst_1 ?_
    refine lv_iload_n hx hb dX4_thingsInside_15 rfl (lv_at hl 0 rfl) ?_
    refine lv_ishl hx hb dX4_thingsInside_16 ?_
    refine lv_iconst (v := (-1 : Int32)) hx hb dX4_thingsInside_17 k_iconst_n1 ?_
    refine lv_ixor hx hb dX4_thingsInside_18 ?_
    refine lv_iand hx hb dX4_thingsInside_19 ?_
    refine lv_goto (tgt := 24) hx hb dX4_thingsInside_20 (by decide) ?_
    have hres := Option.some.inj h
    subst hres
    exact hRet 24 _ _ _ hP hD hS dX4_thingsInside_24
abbrev rm_X4_isGiven : Room := { frames := 2, cells := 0, slots := 0, locals := 41 }
theorem fi_X4_isGiven_X4 : ∀ w ∈ wsX40, w ∈ wsX4_isGiven := fun _ h => List.mem_cons_of_mem _ (List.mem_append_right _ h)
theorem hdV_X4_isGiven : yX4_isGiven.cls = RX4 ∧ yX4_isGiven.cls ≠ "java/lang/invoke/MethodHandle" ∧ yX4_isGiven.cls ≠ "java/lang/invoke/VarHandle" ∧ (parseMethodDescriptor yX4_isGiven.desc).map (fun d => d.parameters.length) = some 3 := by decide +kernel
set_option maxRecDepth 100000 in
set_option maxHeartbeats 4000000 in
theorem c_X4_isGiven (l : Launch) (G : va_G) (cI cZ : ClassId) (aW : Nat → Nat) (vW : Ob) (x1 : Int32) (x2 : Int32) (x3 : Int32) (res : Int32) (h : m_X4_isGiven vW x1 x2 x3 = some res) : Ct l yX4_isGiven wsX4_isGiven rm_X4_isGiven G cI cZ [.ref (aW 0), .int x1, .int x2, .int x3] [oX4 aW vW, ai cI (aW 11) 6 (vW 11), ai cI (aW 12) 6 (vW 12), ai cI (aW 13) 6 (vW 13)] (some (.int res)) [oX4 aW vW, ai cI (aW 11) 6 (vW 11), ai cI (aW 12) 6 (vW 12), ai cI (aW 13) 6 (vW 13)] := by
  refine Ct.of_z (maxL := 4) (by decide) rfl (Nat.le_of_ble_eq_true rfl) ?_
  intro p e s m below meth c args hx hb hml hown hts A hA hEN hP hD hS Q hRet ls hl
  have hown : s.vm.findClass RX4 = some m.cls := hown
  have hl : lv_has ls 4 [(0, .ref (aW 0)), (1, .int x1), (2, .int x2), (3, .int x3)] := hl
  unfold m_X4_isGiven at h
  refine lv_aload_n hx hb dX4_isGiven_0 rfl (lv_at hl 0 rfl) ?_
  refine lv_iload_n hx hb dX4_isGiven_1 rfl (lv_at hl 1 rfl) ?_
  obtain ⟨o2, ho2, h⟩ := bnd_some h
  refine call_V0 (As := [.int x1]) (rest := []) ⟨hx, hb, hml, hown, hts⟩ (c_X4_hasHost l G cI cZ aW vW x1 o2 ho2) (cwV 1 hts gX4_isGiven_X4_hasHost rfl rfl rfl hdV_X4_hasHost ⟨Nat.le_of_ble_eq_true rfl, Nat.le_of_ble_eq_true rfl⟩) hEN hA hP hD hS [0] rfl (by decide) 0 rfl rfl rfl hl.1 rfl (Nat.le_of_ble_eq_true rfl) dX4_isGiven_2 ⟨Nat.le_of_ble_eq_true rfl, Nat.le_of_ble_eq_true rfl⟩ (fun H locs hP hS => ?_)
  refine lv_if_eq (tgt := 48) hx hb dX4_isGiven_5 (by decide) (fun c5 => ?_) (fun c5 => ?_)
  · have h := (if_pos c5).symm.trans h
    refine lv_iconst (v := (0 : Int32)) hx hb dX4_isGiven_48 k_iconst_0 ?_
    have hres := Option.some.inj h
    subst hres
    exact hRet 49 nz0 _ _ _ hP hD hS dX4_isGiven_49
  · have h := (if_neg c5).symm.trans h
    refine lv_aload_n hx hb dX4_isGiven_8 rfl (lv_at hl 0 rfl) ?_
    refine va_get (D := G) (ci := 4) (v := .ref (aW 11)) (C := RX4) (T := TX4) (N := 13) hx hb hts fi_X4_isGiven_X4 hown hEN.1 hP 0 rfl rfl 10 (by decide) (hts (.fieldLink RX4 30 "HourWell$World" "homes" "[I") (List.mem_of_getElem? (i := 1) rfl)) (fun _ h9 => h9) rfl dX4_isGiven_9 ?_
    refine lv_iload_n hx hb dX4_isGiven_12 rfl (lv_at hl 1 rfl) ?_
    obtain ⟨hg13, h⟩ := grd_some h
    refine va_iald (f := (vW 11)) hx hb hEN.1 hP 1 0 rfl rfl (inb_in hg13) dX4_isGiven_13 ?_
    refine lv_iload_n hx hb dX4_isGiven_14 rfl (lv_at hl 2 rfl) ?_
    refine lv_icmp_ne (tgt := 48) hx hb dX4_isGiven_15 (by decide) (fun c15 => ?_) (fun c15 => ?_)
    · have h := (if_neg c15).symm.trans h
      refine lv_iconst (v := (0 : Int32)) hx hb dX4_isGiven_48 k_iconst_0 ?_
      have hres := Option.some.inj h
      subst hres
      exact hRet 49 nz0 _ _ _ hP hD hS dX4_isGiven_49
    · have h := (if_pos c15).symm.trans h
      refine lv_iload_n hx hb dX4_isGiven_18 rfl (lv_at hl 3 rfl) ?_
      refine lv_aload_n hx hb dX4_isGiven_19 rfl (lv_at hl 0 rfl) ?_
      refine va_get (D := G) (ci := 4) (v := .ref (aW 13)) (C := RX4) (T := TX4) (N := 13) hx hb hts fi_X4_isGiven_X4 hown hEN.1 hP 0 rfl rfl 12 (by decide) (hts (.fieldLink RX4 36 "HourWell$World" "wishes" "[I") (List.mem_of_getElem? (i := 2) rfl)) (fun _ h9 => h9) rfl dX4_isGiven_20 ?_
      refine lv_iload_n hx hb dX4_isGiven_23 rfl (lv_at hl 1 rfl) ?_
      obtain ⟨hg24, h⟩ := grd_some h
      refine va_iald (f := (vW 13)) hx hb hEN.1 hP 3 0 rfl rfl (inb_in hg24) dX4_isGiven_24 ?_
      obtain ⟨o25, ho25, h⟩ := bnd_some h
      refine call_SN0 (As := [.int x3, .int ((vW 13) (Int32.toNatClampNeg x1))]) (rest := []) ⟨hx, hb, hml, hown, hts⟩ (c_X5_hasThing l G cI cZ  x3 ((vW 13) (Int32.toNatClampNeg x1)) o25 ho25) ⟨va_cnB 2 hts gX4_isGiven_X5_hasThing_n86 rfl rfl rfl (hEN.2.1 _ (List.mem_of_getElem? (i := 10) rfl)) (hts (.initialized RX5) (List.mem_of_getElem? (i := 11) rfl)) hdS_X5_hasThing ⟨Nat.le_of_ble_eq_true rfl, Nat.le_of_ble_eq_true rfl⟩, hts (.static yX5_hasThing) (List.mem_of_getElem? (i := 10) rfl), trivial⟩ hEN hA hP hD hS [] rfl (by decide) rfl hl.1 rfl (Nat.le_of_ble_eq_true rfl) dX4_isGiven_25 ⟨Nat.le_of_ble_eq_true rfl, Nat.le_of_ble_eq_true rfl⟩ (fun H locs hP hS => ?_)
      refine lv_if_eq (tgt := 48) hx hb dX4_isGiven_28 (by decide) (fun c28 => ?_) (fun c28 => ?_)
      · have h := (if_pos c28).symm.trans h
        refine lv_iconst (v := (0 : Int32)) hx hb dX4_isGiven_48 k_iconst_0 ?_
        have hres := Option.some.inj h
        subst hres
        exact hRet 49 nz0 _ _ _ hP hD hS dX4_isGiven_49
      · have h := (if_neg c28).symm.trans h
        refine lv_iload_n hx hb dX4_isGiven_31 rfl (lv_at hl 3 rfl) ?_
        refine lv_aload_n hx hb dX4_isGiven_32 rfl (lv_at hl 0 rfl) ?_
        refine va_get (D := G) (ci := 4) (v := .ref (aW 12)) (C := RX4) (T := TX4) (N := 13) hx hb hts fi_X4_isGiven_X4 hown hEN.1 hP 0 rfl rfl 11 (by decide) (hts (.fieldLink RX4 33 "HourWell$World" "gifts" "[I") (List.mem_of_getElem? (i := 3) rfl)) (fun _ h9 => h9) rfl dX4_isGiven_33 ?_
        refine lv_iload_n hx hb dX4_isGiven_36 rfl (lv_at hl 1 rfl) ?_
        obtain ⟨hg37, h⟩ := grd_some h
        refine va_iald (f := (vW 12)) hx hb hEN.1 hP 2 0 rfl rfl (inb_in hg37) dX4_isGiven_37 ?_
        obtain ⟨o38, ho38, h⟩ := bnd_some h
        refine call_SN0 (As := [.int x3, .int ((vW 12) (Int32.toNatClampNeg x1))]) (rest := []) ⟨hx, hb, hml, hown, hts⟩ (c_X5_hasThing l G cI cZ  x3 ((vW 12) (Int32.toNatClampNeg x1)) o38 ho38) ⟨va_cnB 2 hts gX4_isGiven_X5_hasThing_n86 rfl rfl rfl (hEN.2.1 _ (List.mem_of_getElem? (i := 10) rfl)) (hts (.initialized RX5) (List.mem_of_getElem? (i := 11) rfl)) hdS_X5_hasThing ⟨Nat.le_of_ble_eq_true rfl, Nat.le_of_ble_eq_true rfl⟩, hts (.static yX5_hasThing) (List.mem_of_getElem? (i := 10) rfl), trivial⟩ hEN hA hP hD hS [] rfl (by decide) rfl hl.1 rfl (Nat.le_of_ble_eq_true rfl) dX4_isGiven_38 ⟨Nat.le_of_ble_eq_true rfl, Nat.le_of_ble_eq_true rfl⟩ (fun H locs hP hS => ?_)
        refine lv_if_ne (tgt := 48) hx hb dX4_isGiven_41 (by decide) (fun c41 => ?_) (fun c41 => ?_)
        · have h := (if_neg c41).symm.trans h
          refine lv_iconst (v := (0 : Int32)) hx hb dX4_isGiven_48 k_iconst_0 ?_
          have hres := Option.some.inj h
          subst hres
          exact hRet 49 nz0 _ _ _ hP hD hS dX4_isGiven_49
        · have h := (if_pos c41).symm.trans h
          refine lv_iconst (v := (1 : Int32)) hx hb dX4_isGiven_44 k_iconst_1 ?_
          refine lv_goto (tgt := 49) hx hb dX4_isGiven_45 (by decide) ?_
          have hres := Option.some.inj h
          subst hres
          exact hRet 49 nz1 _ _ _ hP hD hS dX4_isGiven_49
abbrev rm_X4_becomeLike : Room := { frames := 1, cells := 0, slots := 0, locals := 26 }
theorem fi_X4_becomeLike_X4 : ∀ w ∈ wsX40, w ∈ wsX4_becomeLike := fun _ h => List.mem_cons_of_mem _ (List.mem_append_right _ h)
theorem hdV_X4_becomeLike : yX4_becomeLike.cls = RX4 ∧ yX4_becomeLike.cls ≠ "java/lang/invoke/MethodHandle" ∧ yX4_becomeLike.cls ≠ "java/lang/invoke/VarHandle" ∧ (parseMethodDescriptor yX4_becomeLike.desc).map (fun d => d.parameters.length) = some 1 := by decide +kernel
set_option maxRecDepth 100000 in
set_option maxHeartbeats 4000000 in
theorem c_X4_becomeLike (l : Launch) (G : va_G) (cI cZ : ClassId) (aW : Nat → Nat) (aO : Nat → Nat) (vW : Ob) (vO : Ob)  (res : Ob) (h : m_X4_becomeLike vW vO  = some res) : Ct l yX4_becomeLike wsX4_becomeLike rm_X4_becomeLike G cI cZ [.ref (aW 0), .ref (aO 0)] [oX4 aW vW, ai cI (aW 5) 7 (vW 5), ai cI (aW 6) 7 (vW 6), ai cI (aW 7) 7 (vW 7), ai cI (aW 8) 9 (vW 8), ai cI (aW 9) 9 (vW 9), ai cI (aW 10) 9 (vW 10), ai cI (aW 11) 6 (vW 11), ai cI (aW 12) 6 (vW 12), ai cI (aW 13) 6 (vW 13), oX4 aO vO, ai cI (aO 5) 7 (vO 5), ai cI (aO 6) 7 (vO 6), ai cI (aO 7) 7 (vO 7), ai cI (aO 8) 9 (vO 8), ai cI (aO 9) 9 (vO 9), ai cI (aO 10) 9 (vO 10), ai cI (aO 11) 6 (vO 11), ai cI (aO 12) 6 (vO 12), ai cI (aO 13) 6 (vO 13)] none [oX4 aW res, ai cI (aW 5) 7 (res 5), ai cI (aW 6) 7 (res 6), ai cI (aW 7) 7 (res 7), ai cI (aW 8) 9 (res 8), ai cI (aW 9) 9 (res 9), ai cI (aW 10) 9 (res 10), ai cI (aW 11) 6 (res 11), ai cI (aW 12) 6 (res 12), ai cI (aW 13) 6 (res 13), oX4 aO vO, ai cI (aO 5) 7 (vO 5), ai cI (aO 6) 7 (vO 6), ai cI (aO 7) 7 (vO 7), ai cI (aO 8) 9 (vO 8), ai cI (aO 9) 9 (vO 9), ai cI (aO 10) 9 (vO 10), ai cI (aO 11) 6 (vO 11), ai cI (aO 12) 6 (vO 12), ai cI (aO 13) 6 (vO 13)] := by
  refine Ct.of_v (maxL := 2) (by decide) rfl (Nat.le_of_ble_eq_true rfl) ?_
  intro p e s m below meth c args hx hb hml hown hts A hA hEN hP hD hS Q hRet ls hl
  have hown : s.vm.findClass RX4 = some m.cls := hown
  have hl : lv_has ls 2 [(0, .ref (aW 0)), (1, .ref (aO 0))] := hl
  unfold m_X4_becomeLike at h
  refine lv_aload_n hx hb dX4_becomeLike_0 rfl (lv_at hl 0 rfl) ?_
  refine lv_aload_n hx hb dX4_becomeLike_1 rfl (lv_at hl 1 rfl) ?_
  refine va_get (D := G) (ci := 4) (v := .int (vO 0 0)) (C := RX4) (T := TX4) (N := 13) hx hb hts fi_X4_becomeLike_X4 hown hEN.1 hP 10 rfl rfl 0 (by decide) (hts (.fieldLink RX4 39 "HourWell$World" "places" "I") (List.mem_of_getElem? (i := 1) rfl)) (fun _ h9 => h9) rfl dX4_becomeLike_2 ?_
  refine va_put (D := G) (ci := 4) (v := .int (vO 0 0)) (ty := .int) (C := RX4) (T := TX4) (N := 13) hx hb hts fi_X4_becomeLike_X4 tyX4 tyX4_ok nmX4 hown hEN.1 hP hD hS 0 rfl rfl 0 (by decide) (hts (.fieldLink RX4 39 "HourWell$World" "places" "I") (List.mem_of_getElem? (i := 1) rfl)) (fun _ h9 => h9) rfl (by decide +kernel) rfl rfl (Nat.le_of_ble_eq_true rfl) dX4_becomeLike_5 (fun H locs hP hD hS => ?_)
  have hP : va_P G vwCl [oX4 aW (st vW 0 0 (vO 0 0)), ai cI (aW 5) 7 (vW 5), ai cI (aW 6) 7 (vW 6), ai cI (aW 7) 7 (vW 7), ai cI (aW 8) 9 (vW 8), ai cI (aW 9) 9 (vW 9), ai cI (aW 10) 9 (vW 10), ai cI (aW 11) 6 (vW 11), ai cI (aW 12) 6 (vW 12), ai cI (aW 13) 6 (vW 13), oX4 aO vO, ai cI (aO 5) 7 (vO 5), ai cI (aO 6) 7 (vO 6), ai cI (aO 7) 7 (vO 7), ai cI (aO 8) 9 (vO 8), ai cI (aO 9) 9 (vO 9), ai cI (aO 10) 9 (vO 10), ai cI (aO 11) 6 (vO 11), ai cI (aO 12) 6 (vO 12), ai cI (aO 13) 6 (vO 13)] H := hP
  have hD : va_D A [oX4 aW (st vW 0 0 (vO 0 0)), ai cI (aW 5) 7 (vW 5), ai cI (aW 6) 7 (vW 6), ai cI (aW 7) 7 (vW 7), ai cI (aW 8) 9 (vW 8), ai cI (aW 9) 9 (vW 9), ai cI (aW 10) 9 (vW 10), ai cI (aW 11) 6 (vW 11), ai cI (aW 12) 6 (vW 12), ai cI (aW 13) 6 (vW 13), oX4 aO vO, ai cI (aO 5) 7 (vO 5), ai cI (aO 6) 7 (vO 6), ai cI (aO 7) 7 (vO 7), ai cI (aO 8) 9 (vO 8), ai cI (aO 9) 9 (vO 9), ai cI (aO 10) 9 (vO 10), ai cI (aO 11) 6 (vO 11), ai cI (aO 12) 6 (vO 12), ai cI (aO 13) 6 (vO 13)] := hD
  refine lv_aload_n hx hb dX4_becomeLike_8 rfl (lv_at hl 0 rfl) ?_
  refine lv_aload_n hx hb dX4_becomeLike_9 rfl (lv_at hl 1 rfl) ?_
  refine va_get (D := G) (ci := 4) (v := .int (vO 0 1)) (C := RX4) (T := TX4) (N := 13) hx hb hts fi_X4_becomeLike_X4 hown hEN.1 hP 10 rfl rfl 1 (by decide) (hts (.fieldLink RX4 43 "HourWell$World" "roads" "I") (List.mem_of_getElem? (i := 2) rfl)) (fun _ h9 => h9) rfl dX4_becomeLike_10 ?_
  refine va_put (D := G) (ci := 4) (v := .int (vO 0 1)) (ty := .int) (C := RX4) (T := TX4) (N := 13) hx hb hts fi_X4_becomeLike_X4 tyX4 tyX4_ok nmX4 hown hEN.1 hP hD hS 0 rfl rfl 1 (by decide) (hts (.fieldLink RX4 43 "HourWell$World" "roads" "I") (List.mem_of_getElem? (i := 2) rfl)) (fun _ h9 => h9) rfl (by decide +kernel) rfl rfl (Nat.le_of_ble_eq_true rfl) dX4_becomeLike_13 (fun H locs hP hD hS => ?_)
  have hP : va_P G vwCl [oX4 aW (st (st vW 0 0 (vO 0 0)) 0 1 (vO 0 1)), ai cI (aW 5) 7 (vW 5), ai cI (aW 6) 7 (vW 6), ai cI (aW 7) 7 (vW 7), ai cI (aW 8) 9 (vW 8), ai cI (aW 9) 9 (vW 9), ai cI (aW 10) 9 (vW 10), ai cI (aW 11) 6 (vW 11), ai cI (aW 12) 6 (vW 12), ai cI (aW 13) 6 (vW 13), oX4 aO vO, ai cI (aO 5) 7 (vO 5), ai cI (aO 6) 7 (vO 6), ai cI (aO 7) 7 (vO 7), ai cI (aO 8) 9 (vO 8), ai cI (aO 9) 9 (vO 9), ai cI (aO 10) 9 (vO 10), ai cI (aO 11) 6 (vO 11), ai cI (aO 12) 6 (vO 12), ai cI (aO 13) 6 (vO 13)] H := hP
  have hD : va_D A [oX4 aW (st (st vW 0 0 (vO 0 0)) 0 1 (vO 0 1)), ai cI (aW 5) 7 (vW 5), ai cI (aW 6) 7 (vW 6), ai cI (aW 7) 7 (vW 7), ai cI (aW 8) 9 (vW 8), ai cI (aW 9) 9 (vW 9), ai cI (aW 10) 9 (vW 10), ai cI (aW 11) 6 (vW 11), ai cI (aW 12) 6 (vW 12), ai cI (aW 13) 6 (vW 13), oX4 aO vO, ai cI (aO 5) 7 (vO 5), ai cI (aO 6) 7 (vO 6), ai cI (aO 7) 7 (vO 7), ai cI (aO 8) 9 (vO 8), ai cI (aO 9) 9 (vO 9), ai cI (aO 10) 9 (vO 10), ai cI (aO 11) 6 (vO 11), ai cI (aO 12) 6 (vO 12), ai cI (aO 13) 6 (vO 13)] := hD
  refine lv_aload_n hx hb dX4_becomeLike_16 rfl (lv_at hl 0 rfl) ?_
  refine lv_aload_n hx hb dX4_becomeLike_17 rfl (lv_at hl 1 rfl) ?_
  refine va_get (D := G) (ci := 4) (v := .int (vO 0 2)) (C := RX4) (T := TX4) (N := 13) hx hb hts fi_X4_becomeLike_X4 hown hEN.1 hP 10 rfl rfl 2 (by decide) (hts (.fieldLink RX4 46 "HourWell$World" "hosts" "I") (List.mem_of_getElem? (i := 3) rfl)) (fun _ h9 => h9) rfl dX4_becomeLike_18 ?_
  refine va_put (D := G) (ci := 4) (v := .int (vO 0 2)) (ty := .int) (C := RX4) (T := TX4) (N := 13) hx hb hts fi_X4_becomeLike_X4 tyX4 tyX4_ok nmX4 hown hEN.1 hP hD hS 0 rfl rfl 2 (by decide) (hts (.fieldLink RX4 46 "HourWell$World" "hosts" "I") (List.mem_of_getElem? (i := 3) rfl)) (fun _ h9 => h9) rfl (by decide +kernel) rfl rfl (Nat.le_of_ble_eq_true rfl) dX4_becomeLike_21 (fun H locs hP hD hS => ?_)
  have hP : va_P G vwCl [oX4 aW (st (st (st vW 0 0 (vO 0 0)) 0 1 (vO 0 1)) 0 2 (vO 0 2)), ai cI (aW 5) 7 (vW 5), ai cI (aW 6) 7 (vW 6), ai cI (aW 7) 7 (vW 7), ai cI (aW 8) 9 (vW 8), ai cI (aW 9) 9 (vW 9), ai cI (aW 10) 9 (vW 10), ai cI (aW 11) 6 (vW 11), ai cI (aW 12) 6 (vW 12), ai cI (aW 13) 6 (vW 13), oX4 aO vO, ai cI (aO 5) 7 (vO 5), ai cI (aO 6) 7 (vO 6), ai cI (aO 7) 7 (vO 7), ai cI (aO 8) 9 (vO 8), ai cI (aO 9) 9 (vO 9), ai cI (aO 10) 9 (vO 10), ai cI (aO 11) 6 (vO 11), ai cI (aO 12) 6 (vO 12), ai cI (aO 13) 6 (vO 13)] H := hP
  have hD : va_D A [oX4 aW (st (st (st vW 0 0 (vO 0 0)) 0 1 (vO 0 1)) 0 2 (vO 0 2)), ai cI (aW 5) 7 (vW 5), ai cI (aW 6) 7 (vW 6), ai cI (aW 7) 7 (vW 7), ai cI (aW 8) 9 (vW 8), ai cI (aW 9) 9 (vW 9), ai cI (aW 10) 9 (vW 10), ai cI (aW 11) 6 (vW 11), ai cI (aW 12) 6 (vW 12), ai cI (aW 13) 6 (vW 13), oX4 aO vO, ai cI (aO 5) 7 (vO 5), ai cI (aO 6) 7 (vO 6), ai cI (aO 7) 7 (vO 7), ai cI (aO 8) 9 (vO 8), ai cI (aO 9) 9 (vO 9), ai cI (aO 10) 9 (vO 10), ai cI (aO 11) 6 (vO 11), ai cI (aO 12) 6 (vO 12), ai cI (aO 13) 6 (vO 13)] := hD
  refine lv_aload_n hx hb dX4_becomeLike_24 rfl (lv_at hl 0 rfl) ?_
  refine lv_aload_n hx hb dX4_becomeLike_25 rfl (lv_at hl 1 rfl) ?_
  refine va_get (D := G) (ci := 4) (v := .int (vO 0 3)) (C := RX4) (T := TX4) (N := 13) hx hb hts fi_X4_becomeLike_X4 hown hEN.1 hP 10 rfl rfl 3 (by decide) (hts (.fieldLink RX4 49 "HourWell$World" "off" "I") (List.mem_of_getElem? (i := 4) rfl)) (fun _ h9 => h9) rfl dX4_becomeLike_26 ?_
  refine va_put (D := G) (ci := 4) (v := .int (vO 0 3)) (ty := .int) (C := RX4) (T := TX4) (N := 13) hx hb hts fi_X4_becomeLike_X4 tyX4 tyX4_ok nmX4 hown hEN.1 hP hD hS 0 rfl rfl 3 (by decide) (hts (.fieldLink RX4 49 "HourWell$World" "off" "I") (List.mem_of_getElem? (i := 4) rfl)) (fun _ h9 => h9) rfl (by decide +kernel) rfl rfl (Nat.le_of_ble_eq_true rfl) dX4_becomeLike_29 (fun H locs hP hD hS => ?_)
  have hP : va_P G vwCl [oX4 aW (st (st (st (st vW 0 0 (vO 0 0)) 0 1 (vO 0 1)) 0 2 (vO 0 2)) 0 3 (vO 0 3)), ai cI (aW 5) 7 (vW 5), ai cI (aW 6) 7 (vW 6), ai cI (aW 7) 7 (vW 7), ai cI (aW 8) 9 (vW 8), ai cI (aW 9) 9 (vW 9), ai cI (aW 10) 9 (vW 10), ai cI (aW 11) 6 (vW 11), ai cI (aW 12) 6 (vW 12), ai cI (aW 13) 6 (vW 13), oX4 aO vO, ai cI (aO 5) 7 (vO 5), ai cI (aO 6) 7 (vO 6), ai cI (aO 7) 7 (vO 7), ai cI (aO 8) 9 (vO 8), ai cI (aO 9) 9 (vO 9), ai cI (aO 10) 9 (vO 10), ai cI (aO 11) 6 (vO 11), ai cI (aO 12) 6 (vO 12), ai cI (aO 13) 6 (vO 13)] H := hP
  have hD : va_D A [oX4 aW (st (st (st (st vW 0 0 (vO 0 0)) 0 1 (vO 0 1)) 0 2 (vO 0 2)) 0 3 (vO 0 3)), ai cI (aW 5) 7 (vW 5), ai cI (aW 6) 7 (vW 6), ai cI (aW 7) 7 (vW 7), ai cI (aW 8) 9 (vW 8), ai cI (aW 9) 9 (vW 9), ai cI (aW 10) 9 (vW 10), ai cI (aW 11) 6 (vW 11), ai cI (aW 12) 6 (vW 12), ai cI (aW 13) 6 (vW 13), oX4 aO vO, ai cI (aO 5) 7 (vO 5), ai cI (aO 6) 7 (vO 6), ai cI (aO 7) 7 (vO 7), ai cI (aO 8) 9 (vO 8), ai cI (aO 9) 9 (vO 9), ai cI (aO 10) 9 (vO 10), ai cI (aO 11) 6 (vO 11), ai cI (aO 12) 6 (vO 12), ai cI (aO 13) 6 (vO 13)] := hD
  refine lv_aload_n hx hb dX4_becomeLike_32 rfl (lv_at hl 1 rfl) ?_
  refine va_get (D := G) (ci := 4) (v := .ref (aO 5)) (C := RX4) (T := TX4) (N := 13) hx hb hts fi_X4_becomeLike_X4 hown hEN.1 hP 10 rfl rfl 4 (by decide) (hts (.fieldLink RX4 9 "HourWell$World" "lions" "[I") (List.mem_of_getElem? (i := 5) rfl)) (fun _ h9 => h9) rfl dX4_becomeLike_33 ?_
  refine lv_iconst (v := (0 : Int32)) hx hb dX4_becomeLike_36 k_iconst_0 ?_
  refine lv_aload_n hx hb dX4_becomeLike_37 rfl (lv_at hl 0 rfl) ?_
  refine va_get (D := G) (ci := 4) (v := .ref (aW 5)) (C := RX4) (T := TX4) (N := 13) hx hb hts fi_X4_becomeLike_X4 hown hEN.1 hP 0 rfl rfl 4 (by decide) (hts (.fieldLink RX4 9 "HourWell$World" "lions" "[I") (List.mem_of_getElem? (i := 5) rfl)) (fun _ h9 => h9) rfl dX4_becomeLike_38 ?_
  refine lv_iconst (v := (0 : Int32)) hx hb dX4_becomeLike_41 k_iconst_0 ?_
  refine lv_bipush (v := (7 : Int32)) hx hb dX4_becomeLike_42 k_bipush_7 ?_
  refine va_copyi (f := (vO 5)) (g := (vW 5)) (ty := .int) hx hb (hml.trans hl.1.symm) hown (hts (.methodLink RX4 52 arraycopyName) (List.mem_of_getElem? (i := 6) rfl)) (hts (.native arraycopyName) (List.mem_of_getElem? (i := 7) rfl)) (hts (.static arraycopyName) (List.mem_of_getElem? (i := 8) rfl)) (hts (.initialized "java/lang/System") (List.mem_of_getElem? (i := 9) rfl)) hEN.1 hP hD hS 11 1 0 0 rfl rfl rfl rfl rfl (by decide) (by decide) (by decide) (by decide) (by decide) (fun _ _ => rfl) (Nat.le_of_ble_eq_true rfl) (Nat.le_of_ble_eq_true rfl) dX4_becomeLike_44 (fun H locs hP hD hS => ?_)
  have hP : va_P G vwCl [oX4 aW (st (st (st (st vW 0 0 (vO 0 0)) 0 1 (vO 0 1)) 0 2 (vO 0 2)) 0 3 (vO 0 3)), ai cI (aW 5) 7 (va_cpy (vO 5) (vW 5) (Int32.toNatClampNeg (0 : Int32)) (Int32.toNatClampNeg (0 : Int32)) (Int32.toNatClampNeg (7 : Int32))), ai cI (aW 6) 7 (vW 6), ai cI (aW 7) 7 (vW 7), ai cI (aW 8) 9 (vW 8), ai cI (aW 9) 9 (vW 9), ai cI (aW 10) 9 (vW 10), ai cI (aW 11) 6 (vW 11), ai cI (aW 12) 6 (vW 12), ai cI (aW 13) 6 (vW 13), oX4 aO vO, ai cI (aO 5) 7 (vO 5), ai cI (aO 6) 7 (vO 6), ai cI (aO 7) 7 (vO 7), ai cI (aO 8) 9 (vO 8), ai cI (aO 9) 9 (vO 9), ai cI (aO 10) 9 (vO 10), ai cI (aO 11) 6 (vO 11), ai cI (aO 12) 6 (vO 12), ai cI (aO 13) 6 (vO 13)] H := hP
  have hD : va_D A [oX4 aW (st (st (st (st vW 0 0 (vO 0 0)) 0 1 (vO 0 1)) 0 2 (vO 0 2)) 0 3 (vO 0 3)), ai cI (aW 5) 7 (va_cpy (vO 5) (vW 5) (Int32.toNatClampNeg (0 : Int32)) (Int32.toNatClampNeg (0 : Int32)) (Int32.toNatClampNeg (7 : Int32))), ai cI (aW 6) 7 (vW 6), ai cI (aW 7) 7 (vW 7), ai cI (aW 8) 9 (vW 8), ai cI (aW 9) 9 (vW 9), ai cI (aW 10) 9 (vW 10), ai cI (aW 11) 6 (vW 11), ai cI (aW 12) 6 (vW 12), ai cI (aW 13) 6 (vW 13), oX4 aO vO, ai cI (aO 5) 7 (vO 5), ai cI (aO 6) 7 (vO 6), ai cI (aO 7) 7 (vO 7), ai cI (aO 8) 9 (vO 8), ai cI (aO 9) 9 (vO 9), ai cI (aO 10) 9 (vO 10), ai cI (aO 11) 6 (vO 11), ai cI (aO 12) 6 (vO 12), ai cI (aO 13) 6 (vO 13)] := hD
  refine lv_aload_n hx hb dX4_becomeLike_47 rfl (lv_at hl 1 rfl) ?_
  refine va_get (D := G) (ci := 4) (v := .ref (aO 6)) (C := RX4) (T := TX4) (N := 13) hx hb hts fi_X4_becomeLike_X4 hown hEN.1 hP 10 rfl rfl 5 (by decide) (hts (.fieldLink RX4 15 "HourWell$World" "gateFrom" "[I") (List.mem_of_getElem? (i := 10) rfl)) (fun _ h9 => h9) rfl dX4_becomeLike_48 ?_
  refine lv_iconst (v := (0 : Int32)) hx hb dX4_becomeLike_51 k_iconst_0 ?_
  refine lv_aload_n hx hb dX4_becomeLike_52 rfl (lv_at hl 0 rfl) ?_
  refine va_get (D := G) (ci := 4) (v := .ref (aW 6)) (C := RX4) (T := TX4) (N := 13) hx hb hts fi_X4_becomeLike_X4 hown hEN.1 hP 0 rfl rfl 5 (by decide) (hts (.fieldLink RX4 15 "HourWell$World" "gateFrom" "[I") (List.mem_of_getElem? (i := 10) rfl)) (fun _ h9 => h9) rfl dX4_becomeLike_53 ?_
  refine lv_iconst (v := (0 : Int32)) hx hb dX4_becomeLike_56 k_iconst_0 ?_
  refine lv_bipush (v := (7 : Int32)) hx hb dX4_becomeLike_57 k_bipush_7 ?_
  refine va_copyi (f := (vO 6)) (g := (vW 6)) (ty := .int) hx hb (hml.trans hl.1.symm) hown (hts (.methodLink RX4 52 arraycopyName) (List.mem_of_getElem? (i := 6) rfl)) (hts (.native arraycopyName) (List.mem_of_getElem? (i := 7) rfl)) (hts (.static arraycopyName) (List.mem_of_getElem? (i := 8) rfl)) (hts (.initialized "java/lang/System") (List.mem_of_getElem? (i := 9) rfl)) hEN.1 hP hD hS 12 2 0 0 rfl rfl rfl rfl rfl (by decide) (by decide) (by decide) (by decide) (by decide) (fun _ _ => rfl) (Nat.le_of_ble_eq_true rfl) (Nat.le_of_ble_eq_true rfl) dX4_becomeLike_59 (fun H locs hP hD hS => ?_)
  have hP : va_P G vwCl [oX4 aW (st (st (st (st vW 0 0 (vO 0 0)) 0 1 (vO 0 1)) 0 2 (vO 0 2)) 0 3 (vO 0 3)), ai cI (aW 5) 7 (va_cpy (vO 5) (vW 5) (Int32.toNatClampNeg (0 : Int32)) (Int32.toNatClampNeg (0 : Int32)) (Int32.toNatClampNeg (7 : Int32))), ai cI (aW 6) 7 (va_cpy (vO 6) (vW 6) (Int32.toNatClampNeg (0 : Int32)) (Int32.toNatClampNeg (0 : Int32)) (Int32.toNatClampNeg (7 : Int32))), ai cI (aW 7) 7 (vW 7), ai cI (aW 8) 9 (vW 8), ai cI (aW 9) 9 (vW 9), ai cI (aW 10) 9 (vW 10), ai cI (aW 11) 6 (vW 11), ai cI (aW 12) 6 (vW 12), ai cI (aW 13) 6 (vW 13), oX4 aO vO, ai cI (aO 5) 7 (vO 5), ai cI (aO 6) 7 (vO 6), ai cI (aO 7) 7 (vO 7), ai cI (aO 8) 9 (vO 8), ai cI (aO 9) 9 (vO 9), ai cI (aO 10) 9 (vO 10), ai cI (aO 11) 6 (vO 11), ai cI (aO 12) 6 (vO 12), ai cI (aO 13) 6 (vO 13)] H := hP
  have hD : va_D A [oX4 aW (st (st (st (st vW 0 0 (vO 0 0)) 0 1 (vO 0 1)) 0 2 (vO 0 2)) 0 3 (vO 0 3)), ai cI (aW 5) 7 (va_cpy (vO 5) (vW 5) (Int32.toNatClampNeg (0 : Int32)) (Int32.toNatClampNeg (0 : Int32)) (Int32.toNatClampNeg (7 : Int32))), ai cI (aW 6) 7 (va_cpy (vO 6) (vW 6) (Int32.toNatClampNeg (0 : Int32)) (Int32.toNatClampNeg (0 : Int32)) (Int32.toNatClampNeg (7 : Int32))), ai cI (aW 7) 7 (vW 7), ai cI (aW 8) 9 (vW 8), ai cI (aW 9) 9 (vW 9), ai cI (aW 10) 9 (vW 10), ai cI (aW 11) 6 (vW 11), ai cI (aW 12) 6 (vW 12), ai cI (aW 13) 6 (vW 13), oX4 aO vO, ai cI (aO 5) 7 (vO 5), ai cI (aO 6) 7 (vO 6), ai cI (aO 7) 7 (vO 7), ai cI (aO 8) 9 (vO 8), ai cI (aO 9) 9 (vO 9), ai cI (aO 10) 9 (vO 10), ai cI (aO 11) 6 (vO 11), ai cI (aO 12) 6 (vO 12), ai cI (aO 13) 6 (vO 13)] := hD
  refine lv_aload_n hx hb dX4_becomeLike_62 rfl (lv_at hl 1 rfl) ?_
  refine va_get (D := G) (ci := 4) (v := .ref (aO 7)) (C := RX4) (T := TX4) (N := 13) hx hb hts fi_X4_becomeLike_X4 hown hEN.1 hP 10 rfl rfl 6 (by decide) (hts (.fieldLink RX4 18 "HourWell$World" "gateHours" "[I") (List.mem_of_getElem? (i := 11) rfl)) (fun _ h9 => h9) rfl dX4_becomeLike_63 ?_
  refine lv_iconst (v := (0 : Int32)) hx hb dX4_becomeLike_66 k_iconst_0 ?_
  refine lv_aload_n hx hb dX4_becomeLike_67 rfl (lv_at hl 0 rfl) ?_
  refine va_get (D := G) (ci := 4) (v := .ref (aW 7)) (C := RX4) (T := TX4) (N := 13) hx hb hts fi_X4_becomeLike_X4 hown hEN.1 hP 0 rfl rfl 6 (by decide) (hts (.fieldLink RX4 18 "HourWell$World" "gateHours" "[I") (List.mem_of_getElem? (i := 11) rfl)) (fun _ h9 => h9) rfl dX4_becomeLike_68 ?_
  refine lv_iconst (v := (0 : Int32)) hx hb dX4_becomeLike_71 k_iconst_0 ?_
  refine lv_bipush (v := (7 : Int32)) hx hb dX4_becomeLike_72 k_bipush_7 ?_
  refine va_copyi (f := (vO 7)) (g := (vW 7)) (ty := .int) hx hb (hml.trans hl.1.symm) hown (hts (.methodLink RX4 52 arraycopyName) (List.mem_of_getElem? (i := 6) rfl)) (hts (.native arraycopyName) (List.mem_of_getElem? (i := 7) rfl)) (hts (.static arraycopyName) (List.mem_of_getElem? (i := 8) rfl)) (hts (.initialized "java/lang/System") (List.mem_of_getElem? (i := 9) rfl)) hEN.1 hP hD hS 13 3 0 0 rfl rfl rfl rfl rfl (by decide) (by decide) (by decide) (by decide) (by decide) (fun _ _ => rfl) (Nat.le_of_ble_eq_true rfl) (Nat.le_of_ble_eq_true rfl) dX4_becomeLike_74 (fun H locs hP hD hS => ?_)
  have hP : va_P G vwCl [oX4 aW (st (st (st (st vW 0 0 (vO 0 0)) 0 1 (vO 0 1)) 0 2 (vO 0 2)) 0 3 (vO 0 3)), ai cI (aW 5) 7 (va_cpy (vO 5) (vW 5) (Int32.toNatClampNeg (0 : Int32)) (Int32.toNatClampNeg (0 : Int32)) (Int32.toNatClampNeg (7 : Int32))), ai cI (aW 6) 7 (va_cpy (vO 6) (vW 6) (Int32.toNatClampNeg (0 : Int32)) (Int32.toNatClampNeg (0 : Int32)) (Int32.toNatClampNeg (7 : Int32))), ai cI (aW 7) 7 (va_cpy (vO 7) (vW 7) (Int32.toNatClampNeg (0 : Int32)) (Int32.toNatClampNeg (0 : Int32)) (Int32.toNatClampNeg (7 : Int32))), ai cI (aW 8) 9 (vW 8), ai cI (aW 9) 9 (vW 9), ai cI (aW 10) 9 (vW 10), ai cI (aW 11) 6 (vW 11), ai cI (aW 12) 6 (vW 12), ai cI (aW 13) 6 (vW 13), oX4 aO vO, ai cI (aO 5) 7 (vO 5), ai cI (aO 6) 7 (vO 6), ai cI (aO 7) 7 (vO 7), ai cI (aO 8) 9 (vO 8), ai cI (aO 9) 9 (vO 9), ai cI (aO 10) 9 (vO 10), ai cI (aO 11) 6 (vO 11), ai cI (aO 12) 6 (vO 12), ai cI (aO 13) 6 (vO 13)] H := hP
  have hD : va_D A [oX4 aW (st (st (st (st vW 0 0 (vO 0 0)) 0 1 (vO 0 1)) 0 2 (vO 0 2)) 0 3 (vO 0 3)), ai cI (aW 5) 7 (va_cpy (vO 5) (vW 5) (Int32.toNatClampNeg (0 : Int32)) (Int32.toNatClampNeg (0 : Int32)) (Int32.toNatClampNeg (7 : Int32))), ai cI (aW 6) 7 (va_cpy (vO 6) (vW 6) (Int32.toNatClampNeg (0 : Int32)) (Int32.toNatClampNeg (0 : Int32)) (Int32.toNatClampNeg (7 : Int32))), ai cI (aW 7) 7 (va_cpy (vO 7) (vW 7) (Int32.toNatClampNeg (0 : Int32)) (Int32.toNatClampNeg (0 : Int32)) (Int32.toNatClampNeg (7 : Int32))), ai cI (aW 8) 9 (vW 8), ai cI (aW 9) 9 (vW 9), ai cI (aW 10) 9 (vW 10), ai cI (aW 11) 6 (vW 11), ai cI (aW 12) 6 (vW 12), ai cI (aW 13) 6 (vW 13), oX4 aO vO, ai cI (aO 5) 7 (vO 5), ai cI (aO 6) 7 (vO 6), ai cI (aO 7) 7 (vO 7), ai cI (aO 8) 9 (vO 8), ai cI (aO 9) 9 (vO 9), ai cI (aO 10) 9 (vO 10), ai cI (aO 11) 6 (vO 11), ai cI (aO 12) 6 (vO 12), ai cI (aO 13) 6 (vO 13)] := hD
  refine lv_aload_n hx hb dX4_becomeLike_77 rfl (lv_at hl 1 rfl) ?_
  refine va_get (D := G) (ci := 4) (v := .ref (aO 8)) (C := RX4) (T := TX4) (N := 13) hx hb hts fi_X4_becomeLike_X4 hown hEN.1 hP 10 rfl rfl 7 (by decide) (hts (.fieldLink RX4 21 "HourWell$World" "starts" "[I") (List.mem_of_getElem? (i := 12) rfl)) (fun _ h9 => h9) rfl dX4_becomeLike_78 ?_
  refine lv_iconst (v := (0 : Int32)) hx hb dX4_becomeLike_81 k_iconst_0 ?_
  refine lv_aload_n hx hb dX4_becomeLike_82 rfl (lv_at hl 0 rfl) ?_
  refine va_get (D := G) (ci := 4) (v := .ref (aW 8)) (C := RX4) (T := TX4) (N := 13) hx hb hts fi_X4_becomeLike_X4 hown hEN.1 hP 0 rfl rfl 7 (by decide) (hts (.fieldLink RX4 21 "HourWell$World" "starts" "[I") (List.mem_of_getElem? (i := 12) rfl)) (fun _ h9 => h9) rfl dX4_becomeLike_83 ?_
  refine lv_iconst (v := (0 : Int32)) hx hb dX4_becomeLike_86 k_iconst_0 ?_
  refine lv_bipush (v := (9 : Int32)) hx hb dX4_becomeLike_87 k_bipush_9 ?_
  refine va_copyi (f := (vO 8)) (g := (vW 8)) (ty := .int) hx hb (hml.trans hl.1.symm) hown (hts (.methodLink RX4 52 arraycopyName) (List.mem_of_getElem? (i := 6) rfl)) (hts (.native arraycopyName) (List.mem_of_getElem? (i := 7) rfl)) (hts (.static arraycopyName) (List.mem_of_getElem? (i := 8) rfl)) (hts (.initialized "java/lang/System") (List.mem_of_getElem? (i := 9) rfl)) hEN.1 hP hD hS 14 4 0 0 rfl rfl rfl rfl rfl (by decide) (by decide) (by decide) (by decide) (by decide) (fun _ _ => rfl) (Nat.le_of_ble_eq_true rfl) (Nat.le_of_ble_eq_true rfl) dX4_becomeLike_89 (fun H locs hP hD hS => ?_)
  have hP : va_P G vwCl [oX4 aW (st (st (st (st vW 0 0 (vO 0 0)) 0 1 (vO 0 1)) 0 2 (vO 0 2)) 0 3 (vO 0 3)), ai cI (aW 5) 7 (va_cpy (vO 5) (vW 5) (Int32.toNatClampNeg (0 : Int32)) (Int32.toNatClampNeg (0 : Int32)) (Int32.toNatClampNeg (7 : Int32))), ai cI (aW 6) 7 (va_cpy (vO 6) (vW 6) (Int32.toNatClampNeg (0 : Int32)) (Int32.toNatClampNeg (0 : Int32)) (Int32.toNatClampNeg (7 : Int32))), ai cI (aW 7) 7 (va_cpy (vO 7) (vW 7) (Int32.toNatClampNeg (0 : Int32)) (Int32.toNatClampNeg (0 : Int32)) (Int32.toNatClampNeg (7 : Int32))), ai cI (aW 8) 9 (va_cpy (vO 8) (vW 8) (Int32.toNatClampNeg (0 : Int32)) (Int32.toNatClampNeg (0 : Int32)) (Int32.toNatClampNeg (9 : Int32))), ai cI (aW 9) 9 (vW 9), ai cI (aW 10) 9 (vW 10), ai cI (aW 11) 6 (vW 11), ai cI (aW 12) 6 (vW 12), ai cI (aW 13) 6 (vW 13), oX4 aO vO, ai cI (aO 5) 7 (vO 5), ai cI (aO 6) 7 (vO 6), ai cI (aO 7) 7 (vO 7), ai cI (aO 8) 9 (vO 8), ai cI (aO 9) 9 (vO 9), ai cI (aO 10) 9 (vO 10), ai cI (aO 11) 6 (vO 11), ai cI (aO 12) 6 (vO 12), ai cI (aO 13) 6 (vO 13)] H := hP
  have hD : va_D A [oX4 aW (st (st (st (st vW 0 0 (vO 0 0)) 0 1 (vO 0 1)) 0 2 (vO 0 2)) 0 3 (vO 0 3)), ai cI (aW 5) 7 (va_cpy (vO 5) (vW 5) (Int32.toNatClampNeg (0 : Int32)) (Int32.toNatClampNeg (0 : Int32)) (Int32.toNatClampNeg (7 : Int32))), ai cI (aW 6) 7 (va_cpy (vO 6) (vW 6) (Int32.toNatClampNeg (0 : Int32)) (Int32.toNatClampNeg (0 : Int32)) (Int32.toNatClampNeg (7 : Int32))), ai cI (aW 7) 7 (va_cpy (vO 7) (vW 7) (Int32.toNatClampNeg (0 : Int32)) (Int32.toNatClampNeg (0 : Int32)) (Int32.toNatClampNeg (7 : Int32))), ai cI (aW 8) 9 (va_cpy (vO 8) (vW 8) (Int32.toNatClampNeg (0 : Int32)) (Int32.toNatClampNeg (0 : Int32)) (Int32.toNatClampNeg (9 : Int32))), ai cI (aW 9) 9 (vW 9), ai cI (aW 10) 9 (vW 10), ai cI (aW 11) 6 (vW 11), ai cI (aW 12) 6 (vW 12), ai cI (aW 13) 6 (vW 13), oX4 aO vO, ai cI (aO 5) 7 (vO 5), ai cI (aO 6) 7 (vO 6), ai cI (aO 7) 7 (vO 7), ai cI (aO 8) 9 (vO 8), ai cI (aO 9) 9 (vO 9), ai cI (aO 10) 9 (vO 10), ai cI (aO 11) 6 (vO 11), ai cI (aO 12) 6 (vO 12), ai cI (aO 13) 6 (vO 13)] := hD
  refine lv_aload_n hx hb dX4_becomeLike_92 rfl (lv_at hl 1 rfl) ?_
  refine va_get (D := G) (ci := 4) (v := .ref (aO 9)) (C := RX4) (T := TX4) (N := 13) hx hb hts fi_X4_becomeLike_X4 hown hEN.1 hP 10 rfl rfl 8 (by decide) (hts (.fieldLink RX4 24 "HourWell$World" "ends" "[I") (List.mem_of_getElem? (i := 13) rfl)) (fun _ h9 => h9) rfl dX4_becomeLike_93 ?_
  refine lv_iconst (v := (0 : Int32)) hx hb dX4_becomeLike_96 k_iconst_0 ?_
  refine lv_aload_n hx hb dX4_becomeLike_97 rfl (lv_at hl 0 rfl) ?_
  refine va_get (D := G) (ci := 4) (v := .ref (aW 9)) (C := RX4) (T := TX4) (N := 13) hx hb hts fi_X4_becomeLike_X4 hown hEN.1 hP 0 rfl rfl 8 (by decide) (hts (.fieldLink RX4 24 "HourWell$World" "ends" "[I") (List.mem_of_getElem? (i := 13) rfl)) (fun _ h9 => h9) rfl dX4_becomeLike_98 ?_
  refine lv_iconst (v := (0 : Int32)) hx hb dX4_becomeLike_101 k_iconst_0 ?_
  refine lv_bipush (v := (9 : Int32)) hx hb dX4_becomeLike_102 k_bipush_9 ?_
  refine va_copyi (f := (vO 9)) (g := (vW 9)) (ty := .int) hx hb (hml.trans hl.1.symm) hown (hts (.methodLink RX4 52 arraycopyName) (List.mem_of_getElem? (i := 6) rfl)) (hts (.native arraycopyName) (List.mem_of_getElem? (i := 7) rfl)) (hts (.static arraycopyName) (List.mem_of_getElem? (i := 8) rfl)) (hts (.initialized "java/lang/System") (List.mem_of_getElem? (i := 9) rfl)) hEN.1 hP hD hS 15 5 0 0 rfl rfl rfl rfl rfl (by decide) (by decide) (by decide) (by decide) (by decide) (fun _ _ => rfl) (Nat.le_of_ble_eq_true rfl) (Nat.le_of_ble_eq_true rfl) dX4_becomeLike_104 (fun H locs hP hD hS => ?_)
  have hP : va_P G vwCl [oX4 aW (st (st (st (st vW 0 0 (vO 0 0)) 0 1 (vO 0 1)) 0 2 (vO 0 2)) 0 3 (vO 0 3)), ai cI (aW 5) 7 (va_cpy (vO 5) (vW 5) (Int32.toNatClampNeg (0 : Int32)) (Int32.toNatClampNeg (0 : Int32)) (Int32.toNatClampNeg (7 : Int32))), ai cI (aW 6) 7 (va_cpy (vO 6) (vW 6) (Int32.toNatClampNeg (0 : Int32)) (Int32.toNatClampNeg (0 : Int32)) (Int32.toNatClampNeg (7 : Int32))), ai cI (aW 7) 7 (va_cpy (vO 7) (vW 7) (Int32.toNatClampNeg (0 : Int32)) (Int32.toNatClampNeg (0 : Int32)) (Int32.toNatClampNeg (7 : Int32))), ai cI (aW 8) 9 (va_cpy (vO 8) (vW 8) (Int32.toNatClampNeg (0 : Int32)) (Int32.toNatClampNeg (0 : Int32)) (Int32.toNatClampNeg (9 : Int32))), ai cI (aW 9) 9 (va_cpy (vO 9) (vW 9) (Int32.toNatClampNeg (0 : Int32)) (Int32.toNatClampNeg (0 : Int32)) (Int32.toNatClampNeg (9 : Int32))), ai cI (aW 10) 9 (vW 10), ai cI (aW 11) 6 (vW 11), ai cI (aW 12) 6 (vW 12), ai cI (aW 13) 6 (vW 13), oX4 aO vO, ai cI (aO 5) 7 (vO 5), ai cI (aO 6) 7 (vO 6), ai cI (aO 7) 7 (vO 7), ai cI (aO 8) 9 (vO 8), ai cI (aO 9) 9 (vO 9), ai cI (aO 10) 9 (vO 10), ai cI (aO 11) 6 (vO 11), ai cI (aO 12) 6 (vO 12), ai cI (aO 13) 6 (vO 13)] H := hP
  have hD : va_D A [oX4 aW (st (st (st (st vW 0 0 (vO 0 0)) 0 1 (vO 0 1)) 0 2 (vO 0 2)) 0 3 (vO 0 3)), ai cI (aW 5) 7 (va_cpy (vO 5) (vW 5) (Int32.toNatClampNeg (0 : Int32)) (Int32.toNatClampNeg (0 : Int32)) (Int32.toNatClampNeg (7 : Int32))), ai cI (aW 6) 7 (va_cpy (vO 6) (vW 6) (Int32.toNatClampNeg (0 : Int32)) (Int32.toNatClampNeg (0 : Int32)) (Int32.toNatClampNeg (7 : Int32))), ai cI (aW 7) 7 (va_cpy (vO 7) (vW 7) (Int32.toNatClampNeg (0 : Int32)) (Int32.toNatClampNeg (0 : Int32)) (Int32.toNatClampNeg (7 : Int32))), ai cI (aW 8) 9 (va_cpy (vO 8) (vW 8) (Int32.toNatClampNeg (0 : Int32)) (Int32.toNatClampNeg (0 : Int32)) (Int32.toNatClampNeg (9 : Int32))), ai cI (aW 9) 9 (va_cpy (vO 9) (vW 9) (Int32.toNatClampNeg (0 : Int32)) (Int32.toNatClampNeg (0 : Int32)) (Int32.toNatClampNeg (9 : Int32))), ai cI (aW 10) 9 (vW 10), ai cI (aW 11) 6 (vW 11), ai cI (aW 12) 6 (vW 12), ai cI (aW 13) 6 (vW 13), oX4 aO vO, ai cI (aO 5) 7 (vO 5), ai cI (aO 6) 7 (vO 6), ai cI (aO 7) 7 (vO 7), ai cI (aO 8) 9 (vO 8), ai cI (aO 9) 9 (vO 9), ai cI (aO 10) 9 (vO 10), ai cI (aO 11) 6 (vO 11), ai cI (aO 12) 6 (vO 12), ai cI (aO 13) 6 (vO 13)] := hD
  refine lv_aload_n hx hb dX4_becomeLike_107 rfl (lv_at hl 1 rfl) ?_
  refine va_get (D := G) (ci := 4) (v := .ref (aO 10)) (C := RX4) (T := TX4) (N := 13) hx hb hts fi_X4_becomeLike_X4 hown hEN.1 hP 10 rfl rfl 9 (by decide) (hts (.fieldLink RX4 27 "HourWell$World" "lengths" "[I") (List.mem_of_getElem? (i := 14) rfl)) (fun _ h9 => h9) rfl dX4_becomeLike_108 ?_
  refine lv_iconst (v := (0 : Int32)) hx hb dX4_becomeLike_111 k_iconst_0 ?_
  refine lv_aload_n hx hb dX4_becomeLike_112 rfl (lv_at hl 0 rfl) ?_
  refine va_get (D := G) (ci := 4) (v := .ref (aW 10)) (C := RX4) (T := TX4) (N := 13) hx hb hts fi_X4_becomeLike_X4 hown hEN.1 hP 0 rfl rfl 9 (by decide) (hts (.fieldLink RX4 27 "HourWell$World" "lengths" "[I") (List.mem_of_getElem? (i := 14) rfl)) (fun _ h9 => h9) rfl dX4_becomeLike_113 ?_
  refine lv_iconst (v := (0 : Int32)) hx hb dX4_becomeLike_116 k_iconst_0 ?_
  refine lv_bipush (v := (9 : Int32)) hx hb dX4_becomeLike_117 k_bipush_9 ?_
  refine va_copyi (f := (vO 10)) (g := (vW 10)) (ty := .int) hx hb (hml.trans hl.1.symm) hown (hts (.methodLink RX4 52 arraycopyName) (List.mem_of_getElem? (i := 6) rfl)) (hts (.native arraycopyName) (List.mem_of_getElem? (i := 7) rfl)) (hts (.static arraycopyName) (List.mem_of_getElem? (i := 8) rfl)) (hts (.initialized "java/lang/System") (List.mem_of_getElem? (i := 9) rfl)) hEN.1 hP hD hS 16 6 0 0 rfl rfl rfl rfl rfl (by decide) (by decide) (by decide) (by decide) (by decide) (fun _ _ => rfl) (Nat.le_of_ble_eq_true rfl) (Nat.le_of_ble_eq_true rfl) dX4_becomeLike_119 (fun H locs hP hD hS => ?_)
  have hP : va_P G vwCl [oX4 aW (st (st (st (st vW 0 0 (vO 0 0)) 0 1 (vO 0 1)) 0 2 (vO 0 2)) 0 3 (vO 0 3)), ai cI (aW 5) 7 (va_cpy (vO 5) (vW 5) (Int32.toNatClampNeg (0 : Int32)) (Int32.toNatClampNeg (0 : Int32)) (Int32.toNatClampNeg (7 : Int32))), ai cI (aW 6) 7 (va_cpy (vO 6) (vW 6) (Int32.toNatClampNeg (0 : Int32)) (Int32.toNatClampNeg (0 : Int32)) (Int32.toNatClampNeg (7 : Int32))), ai cI (aW 7) 7 (va_cpy (vO 7) (vW 7) (Int32.toNatClampNeg (0 : Int32)) (Int32.toNatClampNeg (0 : Int32)) (Int32.toNatClampNeg (7 : Int32))), ai cI (aW 8) 9 (va_cpy (vO 8) (vW 8) (Int32.toNatClampNeg (0 : Int32)) (Int32.toNatClampNeg (0 : Int32)) (Int32.toNatClampNeg (9 : Int32))), ai cI (aW 9) 9 (va_cpy (vO 9) (vW 9) (Int32.toNatClampNeg (0 : Int32)) (Int32.toNatClampNeg (0 : Int32)) (Int32.toNatClampNeg (9 : Int32))), ai cI (aW 10) 9 (va_cpy (vO 10) (vW 10) (Int32.toNatClampNeg (0 : Int32)) (Int32.toNatClampNeg (0 : Int32)) (Int32.toNatClampNeg (9 : Int32))), ai cI (aW 11) 6 (vW 11), ai cI (aW 12) 6 (vW 12), ai cI (aW 13) 6 (vW 13), oX4 aO vO, ai cI (aO 5) 7 (vO 5), ai cI (aO 6) 7 (vO 6), ai cI (aO 7) 7 (vO 7), ai cI (aO 8) 9 (vO 8), ai cI (aO 9) 9 (vO 9), ai cI (aO 10) 9 (vO 10), ai cI (aO 11) 6 (vO 11), ai cI (aO 12) 6 (vO 12), ai cI (aO 13) 6 (vO 13)] H := hP
  have hD : va_D A [oX4 aW (st (st (st (st vW 0 0 (vO 0 0)) 0 1 (vO 0 1)) 0 2 (vO 0 2)) 0 3 (vO 0 3)), ai cI (aW 5) 7 (va_cpy (vO 5) (vW 5) (Int32.toNatClampNeg (0 : Int32)) (Int32.toNatClampNeg (0 : Int32)) (Int32.toNatClampNeg (7 : Int32))), ai cI (aW 6) 7 (va_cpy (vO 6) (vW 6) (Int32.toNatClampNeg (0 : Int32)) (Int32.toNatClampNeg (0 : Int32)) (Int32.toNatClampNeg (7 : Int32))), ai cI (aW 7) 7 (va_cpy (vO 7) (vW 7) (Int32.toNatClampNeg (0 : Int32)) (Int32.toNatClampNeg (0 : Int32)) (Int32.toNatClampNeg (7 : Int32))), ai cI (aW 8) 9 (va_cpy (vO 8) (vW 8) (Int32.toNatClampNeg (0 : Int32)) (Int32.toNatClampNeg (0 : Int32)) (Int32.toNatClampNeg (9 : Int32))), ai cI (aW 9) 9 (va_cpy (vO 9) (vW 9) (Int32.toNatClampNeg (0 : Int32)) (Int32.toNatClampNeg (0 : Int32)) (Int32.toNatClampNeg (9 : Int32))), ai cI (aW 10) 9 (va_cpy (vO 10) (vW 10) (Int32.toNatClampNeg (0 : Int32)) (Int32.toNatClampNeg (0 : Int32)) (Int32.toNatClampNeg (9 : Int32))), ai cI (aW 11) 6 (vW 11), ai cI (aW 12) 6 (vW 12), ai cI (aW 13) 6 (vW 13), oX4 aO vO, ai cI (aO 5) 7 (vO 5), ai cI (aO 6) 7 (vO 6), ai cI (aO 7) 7 (vO 7), ai cI (aO 8) 9 (vO 8), ai cI (aO 9) 9 (vO 9), ai cI (aO 10) 9 (vO 10), ai cI (aO 11) 6 (vO 11), ai cI (aO 12) 6 (vO 12), ai cI (aO 13) 6 (vO 13)] := hD
  refine lv_aload_n hx hb dX4_becomeLike_122 rfl (lv_at hl 1 rfl) ?_
  refine va_get (D := G) (ci := 4) (v := .ref (aO 11)) (C := RX4) (T := TX4) (N := 13) hx hb hts fi_X4_becomeLike_X4 hown hEN.1 hP 10 rfl rfl 10 (by decide) (hts (.fieldLink RX4 30 "HourWell$World" "homes" "[I") (List.mem_of_getElem? (i := 15) rfl)) (fun _ h9 => h9) rfl dX4_becomeLike_123 ?_
  refine lv_iconst (v := (0 : Int32)) hx hb dX4_becomeLike_126 k_iconst_0 ?_
  refine lv_aload_n hx hb dX4_becomeLike_127 rfl (lv_at hl 0 rfl) ?_
  refine va_get (D := G) (ci := 4) (v := .ref (aW 11)) (C := RX4) (T := TX4) (N := 13) hx hb hts fi_X4_becomeLike_X4 hown hEN.1 hP 0 rfl rfl 10 (by decide) (hts (.fieldLink RX4 30 "HourWell$World" "homes" "[I") (List.mem_of_getElem? (i := 15) rfl)) (fun _ h9 => h9) rfl dX4_becomeLike_128 ?_
  refine lv_iconst (v := (0 : Int32)) hx hb dX4_becomeLike_131 k_iconst_0 ?_
  refine lv_bipush (v := (6 : Int32)) hx hb dX4_becomeLike_132 k_bipush_6 ?_
  refine va_copyi (f := (vO 11)) (g := (vW 11)) (ty := .int) hx hb (hml.trans hl.1.symm) hown (hts (.methodLink RX4 52 arraycopyName) (List.mem_of_getElem? (i := 6) rfl)) (hts (.native arraycopyName) (List.mem_of_getElem? (i := 7) rfl)) (hts (.static arraycopyName) (List.mem_of_getElem? (i := 8) rfl)) (hts (.initialized "java/lang/System") (List.mem_of_getElem? (i := 9) rfl)) hEN.1 hP hD hS 17 7 0 0 rfl rfl rfl rfl rfl (by decide) (by decide) (by decide) (by decide) (by decide) (fun _ _ => rfl) (Nat.le_of_ble_eq_true rfl) (Nat.le_of_ble_eq_true rfl) dX4_becomeLike_134 (fun H locs hP hD hS => ?_)
  have hP : va_P G vwCl [oX4 aW (st (st (st (st vW 0 0 (vO 0 0)) 0 1 (vO 0 1)) 0 2 (vO 0 2)) 0 3 (vO 0 3)), ai cI (aW 5) 7 (va_cpy (vO 5) (vW 5) (Int32.toNatClampNeg (0 : Int32)) (Int32.toNatClampNeg (0 : Int32)) (Int32.toNatClampNeg (7 : Int32))), ai cI (aW 6) 7 (va_cpy (vO 6) (vW 6) (Int32.toNatClampNeg (0 : Int32)) (Int32.toNatClampNeg (0 : Int32)) (Int32.toNatClampNeg (7 : Int32))), ai cI (aW 7) 7 (va_cpy (vO 7) (vW 7) (Int32.toNatClampNeg (0 : Int32)) (Int32.toNatClampNeg (0 : Int32)) (Int32.toNatClampNeg (7 : Int32))), ai cI (aW 8) 9 (va_cpy (vO 8) (vW 8) (Int32.toNatClampNeg (0 : Int32)) (Int32.toNatClampNeg (0 : Int32)) (Int32.toNatClampNeg (9 : Int32))), ai cI (aW 9) 9 (va_cpy (vO 9) (vW 9) (Int32.toNatClampNeg (0 : Int32)) (Int32.toNatClampNeg (0 : Int32)) (Int32.toNatClampNeg (9 : Int32))), ai cI (aW 10) 9 (va_cpy (vO 10) (vW 10) (Int32.toNatClampNeg (0 : Int32)) (Int32.toNatClampNeg (0 : Int32)) (Int32.toNatClampNeg (9 : Int32))), ai cI (aW 11) 6 (va_cpy (vO 11) (vW 11) (Int32.toNatClampNeg (0 : Int32)) (Int32.toNatClampNeg (0 : Int32)) (Int32.toNatClampNeg (6 : Int32))), ai cI (aW 12) 6 (vW 12), ai cI (aW 13) 6 (vW 13), oX4 aO vO, ai cI (aO 5) 7 (vO 5), ai cI (aO 6) 7 (vO 6), ai cI (aO 7) 7 (vO 7), ai cI (aO 8) 9 (vO 8), ai cI (aO 9) 9 (vO 9), ai cI (aO 10) 9 (vO 10), ai cI (aO 11) 6 (vO 11), ai cI (aO 12) 6 (vO 12), ai cI (aO 13) 6 (vO 13)] H := hP
  have hD : va_D A [oX4 aW (st (st (st (st vW 0 0 (vO 0 0)) 0 1 (vO 0 1)) 0 2 (vO 0 2)) 0 3 (vO 0 3)), ai cI (aW 5) 7 (va_cpy (vO 5) (vW 5) (Int32.toNatClampNeg (0 : Int32)) (Int32.toNatClampNeg (0 : Int32)) (Int32.toNatClampNeg (7 : Int32))), ai cI (aW 6) 7 (va_cpy (vO 6) (vW 6) (Int32.toNatClampNeg (0 : Int32)) (Int32.toNatClampNeg (0 : Int32)) (Int32.toNatClampNeg (7 : Int32))), ai cI (aW 7) 7 (va_cpy (vO 7) (vW 7) (Int32.toNatClampNeg (0 : Int32)) (Int32.toNatClampNeg (0 : Int32)) (Int32.toNatClampNeg (7 : Int32))), ai cI (aW 8) 9 (va_cpy (vO 8) (vW 8) (Int32.toNatClampNeg (0 : Int32)) (Int32.toNatClampNeg (0 : Int32)) (Int32.toNatClampNeg (9 : Int32))), ai cI (aW 9) 9 (va_cpy (vO 9) (vW 9) (Int32.toNatClampNeg (0 : Int32)) (Int32.toNatClampNeg (0 : Int32)) (Int32.toNatClampNeg (9 : Int32))), ai cI (aW 10) 9 (va_cpy (vO 10) (vW 10) (Int32.toNatClampNeg (0 : Int32)) (Int32.toNatClampNeg (0 : Int32)) (Int32.toNatClampNeg (9 : Int32))), ai cI (aW 11) 6 (va_cpy (vO 11) (vW 11) (Int32.toNatClampNeg (0 : Int32)) (Int32.toNatClampNeg (0 : Int32)) (Int32.toNatClampNeg (6 : Int32))), ai cI (aW 12) 6 (vW 12), ai cI (aW 13) 6 (vW 13), oX4 aO vO, ai cI (aO 5) 7 (vO 5), ai cI (aO 6) 7 (vO 6), ai cI (aO 7) 7 (vO 7), ai cI (aO 8) 9 (vO 8), ai cI (aO 9) 9 (vO 9), ai cI (aO 10) 9 (vO 10), ai cI (aO 11) 6 (vO 11), ai cI (aO 12) 6 (vO 12), ai cI (aO 13) 6 (vO 13)] := hD
  refine lv_aload_n hx hb dX4_becomeLike_137 rfl (lv_at hl 1 rfl) ?_
  refine va_get (D := G) (ci := 4) (v := .ref (aO 12)) (C := RX4) (T := TX4) (N := 13) hx hb hts fi_X4_becomeLike_X4 hown hEN.1 hP 10 rfl rfl 11 (by decide) (hts (.fieldLink RX4 33 "HourWell$World" "gifts" "[I") (List.mem_of_getElem? (i := 16) rfl)) (fun _ h9 => h9) rfl dX4_becomeLike_138 ?_
  refine lv_iconst (v := (0 : Int32)) hx hb dX4_becomeLike_141 k_iconst_0 ?_
  refine lv_aload_n hx hb dX4_becomeLike_142 rfl (lv_at hl 0 rfl) ?_
  refine va_get (D := G) (ci := 4) (v := .ref (aW 12)) (C := RX4) (T := TX4) (N := 13) hx hb hts fi_X4_becomeLike_X4 hown hEN.1 hP 0 rfl rfl 11 (by decide) (hts (.fieldLink RX4 33 "HourWell$World" "gifts" "[I") (List.mem_of_getElem? (i := 16) rfl)) (fun _ h9 => h9) rfl dX4_becomeLike_143 ?_
  refine lv_iconst (v := (0 : Int32)) hx hb dX4_becomeLike_146 k_iconst_0 ?_
  refine lv_bipush (v := (6 : Int32)) hx hb dX4_becomeLike_147 k_bipush_6 ?_
  refine va_copyi (f := (vO 12)) (g := (vW 12)) (ty := .int) hx hb (hml.trans hl.1.symm) hown (hts (.methodLink RX4 52 arraycopyName) (List.mem_of_getElem? (i := 6) rfl)) (hts (.native arraycopyName) (List.mem_of_getElem? (i := 7) rfl)) (hts (.static arraycopyName) (List.mem_of_getElem? (i := 8) rfl)) (hts (.initialized "java/lang/System") (List.mem_of_getElem? (i := 9) rfl)) hEN.1 hP hD hS 18 8 0 0 rfl rfl rfl rfl rfl (by decide) (by decide) (by decide) (by decide) (by decide) (fun _ _ => rfl) (Nat.le_of_ble_eq_true rfl) (Nat.le_of_ble_eq_true rfl) dX4_becomeLike_149 (fun H locs hP hD hS => ?_)
  have hP : va_P G vwCl [oX4 aW (st (st (st (st vW 0 0 (vO 0 0)) 0 1 (vO 0 1)) 0 2 (vO 0 2)) 0 3 (vO 0 3)), ai cI (aW 5) 7 (va_cpy (vO 5) (vW 5) (Int32.toNatClampNeg (0 : Int32)) (Int32.toNatClampNeg (0 : Int32)) (Int32.toNatClampNeg (7 : Int32))), ai cI (aW 6) 7 (va_cpy (vO 6) (vW 6) (Int32.toNatClampNeg (0 : Int32)) (Int32.toNatClampNeg (0 : Int32)) (Int32.toNatClampNeg (7 : Int32))), ai cI (aW 7) 7 (va_cpy (vO 7) (vW 7) (Int32.toNatClampNeg (0 : Int32)) (Int32.toNatClampNeg (0 : Int32)) (Int32.toNatClampNeg (7 : Int32))), ai cI (aW 8) 9 (va_cpy (vO 8) (vW 8) (Int32.toNatClampNeg (0 : Int32)) (Int32.toNatClampNeg (0 : Int32)) (Int32.toNatClampNeg (9 : Int32))), ai cI (aW 9) 9 (va_cpy (vO 9) (vW 9) (Int32.toNatClampNeg (0 : Int32)) (Int32.toNatClampNeg (0 : Int32)) (Int32.toNatClampNeg (9 : Int32))), ai cI (aW 10) 9 (va_cpy (vO 10) (vW 10) (Int32.toNatClampNeg (0 : Int32)) (Int32.toNatClampNeg (0 : Int32)) (Int32.toNatClampNeg (9 : Int32))), ai cI (aW 11) 6 (va_cpy (vO 11) (vW 11) (Int32.toNatClampNeg (0 : Int32)) (Int32.toNatClampNeg (0 : Int32)) (Int32.toNatClampNeg (6 : Int32))), ai cI (aW 12) 6 (va_cpy (vO 12) (vW 12) (Int32.toNatClampNeg (0 : Int32)) (Int32.toNatClampNeg (0 : Int32)) (Int32.toNatClampNeg (6 : Int32))), ai cI (aW 13) 6 (vW 13), oX4 aO vO, ai cI (aO 5) 7 (vO 5), ai cI (aO 6) 7 (vO 6), ai cI (aO 7) 7 (vO 7), ai cI (aO 8) 9 (vO 8), ai cI (aO 9) 9 (vO 9), ai cI (aO 10) 9 (vO 10), ai cI (aO 11) 6 (vO 11), ai cI (aO 12) 6 (vO 12), ai cI (aO 13) 6 (vO 13)] H := hP
  have hD : va_D A [oX4 aW (st (st (st (st vW 0 0 (vO 0 0)) 0 1 (vO 0 1)) 0 2 (vO 0 2)) 0 3 (vO 0 3)), ai cI (aW 5) 7 (va_cpy (vO 5) (vW 5) (Int32.toNatClampNeg (0 : Int32)) (Int32.toNatClampNeg (0 : Int32)) (Int32.toNatClampNeg (7 : Int32))), ai cI (aW 6) 7 (va_cpy (vO 6) (vW 6) (Int32.toNatClampNeg (0 : Int32)) (Int32.toNatClampNeg (0 : Int32)) (Int32.toNatClampNeg (7 : Int32))), ai cI (aW 7) 7 (va_cpy (vO 7) (vW 7) (Int32.toNatClampNeg (0 : Int32)) (Int32.toNatClampNeg (0 : Int32)) (Int32.toNatClampNeg (7 : Int32))), ai cI (aW 8) 9 (va_cpy (vO 8) (vW 8) (Int32.toNatClampNeg (0 : Int32)) (Int32.toNatClampNeg (0 : Int32)) (Int32.toNatClampNeg (9 : Int32))), ai cI (aW 9) 9 (va_cpy (vO 9) (vW 9) (Int32.toNatClampNeg (0 : Int32)) (Int32.toNatClampNeg (0 : Int32)) (Int32.toNatClampNeg (9 : Int32))), ai cI (aW 10) 9 (va_cpy (vO 10) (vW 10) (Int32.toNatClampNeg (0 : Int32)) (Int32.toNatClampNeg (0 : Int32)) (Int32.toNatClampNeg (9 : Int32))), ai cI (aW 11) 6 (va_cpy (vO 11) (vW 11) (Int32.toNatClampNeg (0 : Int32)) (Int32.toNatClampNeg (0 : Int32)) (Int32.toNatClampNeg (6 : Int32))), ai cI (aW 12) 6 (va_cpy (vO 12) (vW 12) (Int32.toNatClampNeg (0 : Int32)) (Int32.toNatClampNeg (0 : Int32)) (Int32.toNatClampNeg (6 : Int32))), ai cI (aW 13) 6 (vW 13), oX4 aO vO, ai cI (aO 5) 7 (vO 5), ai cI (aO 6) 7 (vO 6), ai cI (aO 7) 7 (vO 7), ai cI (aO 8) 9 (vO 8), ai cI (aO 9) 9 (vO 9), ai cI (aO 10) 9 (vO 10), ai cI (aO 11) 6 (vO 11), ai cI (aO 12) 6 (vO 12), ai cI (aO 13) 6 (vO 13)] := hD
  refine lv_aload_n hx hb dX4_becomeLike_152 rfl (lv_at hl 1 rfl) ?_
  refine va_get (D := G) (ci := 4) (v := .ref (aO 13)) (C := RX4) (T := TX4) (N := 13) hx hb hts fi_X4_becomeLike_X4 hown hEN.1 hP 10 rfl rfl 12 (by decide) (hts (.fieldLink RX4 36 "HourWell$World" "wishes" "[I") (List.mem_of_getElem? (i := 17) rfl)) (fun _ h9 => h9) rfl dX4_becomeLike_153 ?_
  refine lv_iconst (v := (0 : Int32)) hx hb dX4_becomeLike_156 k_iconst_0 ?_
  refine lv_aload_n hx hb dX4_becomeLike_157 rfl (lv_at hl 0 rfl) ?_
  refine va_get (D := G) (ci := 4) (v := .ref (aW 13)) (C := RX4) (T := TX4) (N := 13) hx hb hts fi_X4_becomeLike_X4 hown hEN.1 hP 0 rfl rfl 12 (by decide) (hts (.fieldLink RX4 36 "HourWell$World" "wishes" "[I") (List.mem_of_getElem? (i := 17) rfl)) (fun _ h9 => h9) rfl dX4_becomeLike_158 ?_
  refine lv_iconst (v := (0 : Int32)) hx hb dX4_becomeLike_161 k_iconst_0 ?_
  refine lv_bipush (v := (6 : Int32)) hx hb dX4_becomeLike_162 k_bipush_6 ?_
  refine va_copyi (f := (vO 13)) (g := (vW 13)) (ty := .int) hx hb (hml.trans hl.1.symm) hown (hts (.methodLink RX4 52 arraycopyName) (List.mem_of_getElem? (i := 6) rfl)) (hts (.native arraycopyName) (List.mem_of_getElem? (i := 7) rfl)) (hts (.static arraycopyName) (List.mem_of_getElem? (i := 8) rfl)) (hts (.initialized "java/lang/System") (List.mem_of_getElem? (i := 9) rfl)) hEN.1 hP hD hS 19 9 0 0 rfl rfl rfl rfl rfl (by decide) (by decide) (by decide) (by decide) (by decide) (fun _ _ => rfl) (Nat.le_of_ble_eq_true rfl) (Nat.le_of_ble_eq_true rfl) dX4_becomeLike_164 (fun H locs hP hD hS => ?_)
  have hP : va_P G vwCl [oX4 aW (st (st (st (st vW 0 0 (vO 0 0)) 0 1 (vO 0 1)) 0 2 (vO 0 2)) 0 3 (vO 0 3)), ai cI (aW 5) 7 (va_cpy (vO 5) (vW 5) (Int32.toNatClampNeg (0 : Int32)) (Int32.toNatClampNeg (0 : Int32)) (Int32.toNatClampNeg (7 : Int32))), ai cI (aW 6) 7 (va_cpy (vO 6) (vW 6) (Int32.toNatClampNeg (0 : Int32)) (Int32.toNatClampNeg (0 : Int32)) (Int32.toNatClampNeg (7 : Int32))), ai cI (aW 7) 7 (va_cpy (vO 7) (vW 7) (Int32.toNatClampNeg (0 : Int32)) (Int32.toNatClampNeg (0 : Int32)) (Int32.toNatClampNeg (7 : Int32))), ai cI (aW 8) 9 (va_cpy (vO 8) (vW 8) (Int32.toNatClampNeg (0 : Int32)) (Int32.toNatClampNeg (0 : Int32)) (Int32.toNatClampNeg (9 : Int32))), ai cI (aW 9) 9 (va_cpy (vO 9) (vW 9) (Int32.toNatClampNeg (0 : Int32)) (Int32.toNatClampNeg (0 : Int32)) (Int32.toNatClampNeg (9 : Int32))), ai cI (aW 10) 9 (va_cpy (vO 10) (vW 10) (Int32.toNatClampNeg (0 : Int32)) (Int32.toNatClampNeg (0 : Int32)) (Int32.toNatClampNeg (9 : Int32))), ai cI (aW 11) 6 (va_cpy (vO 11) (vW 11) (Int32.toNatClampNeg (0 : Int32)) (Int32.toNatClampNeg (0 : Int32)) (Int32.toNatClampNeg (6 : Int32))), ai cI (aW 12) 6 (va_cpy (vO 12) (vW 12) (Int32.toNatClampNeg (0 : Int32)) (Int32.toNatClampNeg (0 : Int32)) (Int32.toNatClampNeg (6 : Int32))), ai cI (aW 13) 6 (va_cpy (vO 13) (vW 13) (Int32.toNatClampNeg (0 : Int32)) (Int32.toNatClampNeg (0 : Int32)) (Int32.toNatClampNeg (6 : Int32))), oX4 aO vO, ai cI (aO 5) 7 (vO 5), ai cI (aO 6) 7 (vO 6), ai cI (aO 7) 7 (vO 7), ai cI (aO 8) 9 (vO 8), ai cI (aO 9) 9 (vO 9), ai cI (aO 10) 9 (vO 10), ai cI (aO 11) 6 (vO 11), ai cI (aO 12) 6 (vO 12), ai cI (aO 13) 6 (vO 13)] H := hP
  have hD : va_D A [oX4 aW (st (st (st (st vW 0 0 (vO 0 0)) 0 1 (vO 0 1)) 0 2 (vO 0 2)) 0 3 (vO 0 3)), ai cI (aW 5) 7 (va_cpy (vO 5) (vW 5) (Int32.toNatClampNeg (0 : Int32)) (Int32.toNatClampNeg (0 : Int32)) (Int32.toNatClampNeg (7 : Int32))), ai cI (aW 6) 7 (va_cpy (vO 6) (vW 6) (Int32.toNatClampNeg (0 : Int32)) (Int32.toNatClampNeg (0 : Int32)) (Int32.toNatClampNeg (7 : Int32))), ai cI (aW 7) 7 (va_cpy (vO 7) (vW 7) (Int32.toNatClampNeg (0 : Int32)) (Int32.toNatClampNeg (0 : Int32)) (Int32.toNatClampNeg (7 : Int32))), ai cI (aW 8) 9 (va_cpy (vO 8) (vW 8) (Int32.toNatClampNeg (0 : Int32)) (Int32.toNatClampNeg (0 : Int32)) (Int32.toNatClampNeg (9 : Int32))), ai cI (aW 9) 9 (va_cpy (vO 9) (vW 9) (Int32.toNatClampNeg (0 : Int32)) (Int32.toNatClampNeg (0 : Int32)) (Int32.toNatClampNeg (9 : Int32))), ai cI (aW 10) 9 (va_cpy (vO 10) (vW 10) (Int32.toNatClampNeg (0 : Int32)) (Int32.toNatClampNeg (0 : Int32)) (Int32.toNatClampNeg (9 : Int32))), ai cI (aW 11) 6 (va_cpy (vO 11) (vW 11) (Int32.toNatClampNeg (0 : Int32)) (Int32.toNatClampNeg (0 : Int32)) (Int32.toNatClampNeg (6 : Int32))), ai cI (aW 12) 6 (va_cpy (vO 12) (vW 12) (Int32.toNatClampNeg (0 : Int32)) (Int32.toNatClampNeg (0 : Int32)) (Int32.toNatClampNeg (6 : Int32))), ai cI (aW 13) 6 (va_cpy (vO 13) (vW 13) (Int32.toNatClampNeg (0 : Int32)) (Int32.toNatClampNeg (0 : Int32)) (Int32.toNatClampNeg (6 : Int32))), oX4 aO vO, ai cI (aO 5) 7 (vO 5), ai cI (aO 6) 7 (vO 6), ai cI (aO 7) 7 (vO 7), ai cI (aO 8) 9 (vO 8), ai cI (aO 9) 9 (vO 9), ai cI (aO 10) 9 (vO 10), ai cI (aO 11) 6 (vO 11), ai cI (aO 12) 6 (vO 12), ai cI (aO 13) 6 (vO 13)] := hD
  have hres := Option.some.inj h
  subst hres
  exact hRet 167 _ _ _ hP hD hS dX4_becomeLike_167
abbrev rm_X4_gateHoursAt : Room := { frames := 1, cells := 0, slots := 0, locals := 21 }
theorem fi_X4_gateHoursAt_X4 : ∀ w ∈ wsX40, w ∈ wsX4_gateHoursAt := fun _ h => List.mem_cons_of_mem _ (List.mem_append_right _ h)
theorem hdV_X4_gateHoursAt : yX4_gateHoursAt.cls = RX4 ∧ yX4_gateHoursAt.cls ≠ "java/lang/invoke/MethodHandle" ∧ yX4_gateHoursAt.cls ≠ "java/lang/invoke/VarHandle" ∧ (parseMethodDescriptor yX4_gateHoursAt.desc).map (fun d => d.parameters.length) = some 1 := by decide +kernel
set_option maxRecDepth 100000 in
set_option maxHeartbeats 4000000 in
theorem c_X4_gateHoursAt (l : Launch) (G : va_G) (cI cZ : ClassId) (aW : Nat → Nat) (vW : Ob) (x1 : Int32) (res : Int32) (h : m_X4_gateHoursAt vW x1 = some res) : Ct l yX4_gateHoursAt wsX4_gateHoursAt rm_X4_gateHoursAt G cI cZ [.ref (aW 0), .int x1] [oX4 aW vW, ai cI (aW 7) 7 (vW 7)] (some (.int res)) [oX4 aW vW, ai cI (aW 7) 7 (vW 7)] := by
  refine Ct.of_i (maxL := 2) (by decide) rfl (Nat.le_of_ble_eq_true rfl) ?_
  intro p e s m below meth c args hx hb hml hown hts A hA hEN hP hD hS Q hRet ls hl
  have hown : s.vm.findClass RX4 = some m.cls := hown
  have hl : lv_has ls 2 [(0, .ref (aW 0)), (1, .int x1)] := hl
  unfold m_X4_gateHoursAt at h
  refine lv_aload_n hx hb dX4_gateHoursAt_0 rfl (lv_at hl 0 rfl) ?_
  refine lv_iload_n hx hb dX4_gateHoursAt_1 rfl (lv_at hl 1 rfl) ?_
  obtain ⟨o2, ho2, h⟩ := bnd_some h
  refine call_V0 (As := [.int x1]) (rest := []) ⟨hx, hb, hml, hown, hts⟩ (c_X4_hasPlace l G cI cZ aW vW x1 o2 ho2) (cwV 1 hts gX4_gateHoursAt_X4_hasPlace rfl rfl rfl hdV_X4_hasPlace ⟨Nat.le_of_ble_eq_true rfl, Nat.le_of_ble_eq_true rfl⟩) hEN hA hP hD hS [0] rfl (by decide) 0 rfl rfl rfl hl.1 rfl (Nat.le_of_ble_eq_true rfl) dX4_gateHoursAt_2 ⟨Nat.le_of_ble_eq_true rfl, Nat.le_of_ble_eq_true rfl⟩ (fun H locs hP hS => ?_)
  refine lv_if_eq (tgt := 17) hx hb dX4_gateHoursAt_5 (by decide) (fun c5 => ?_) (fun c5 => ?_)
  · have h := (if_pos c5).symm.trans h
    refine lv_bipush (v := (24 : Int32)) hx hb dX4_gateHoursAt_17 k_bipush_24 ?_
    have hres := Option.some.inj h
    subst hres
    exact hRet 19 _ _ _ hP hD hS dX4_gateHoursAt_19
  · have h := (if_neg c5).symm.trans h
    refine lv_aload_n hx hb dX4_gateHoursAt_8 rfl (lv_at hl 0 rfl) ?_
    refine va_get (D := G) (ci := 4) (v := .ref (aW 7)) (C := RX4) (T := TX4) (N := 13) hx hb hts fi_X4_gateHoursAt_X4 hown hEN.1 hP 0 rfl rfl 6 (by decide) (hts (.fieldLink RX4 18 "HourWell$World" "gateHours" "[I") (List.mem_of_getElem? (i := 1) rfl)) (fun _ h9 => h9) rfl dX4_gateHoursAt_9 ?_
    refine lv_iload_n hx hb dX4_gateHoursAt_12 rfl (lv_at hl 1 rfl) ?_
    obtain ⟨hg13, h⟩ := grd_some h
    refine va_iald (f := (vW 7)) hx hb hEN.1 hP 1 0 rfl rfl (inb_in hg13) dX4_gateHoursAt_13 ?_
    refine lv_goto (tgt := 19) hx hb dX4_gateHoursAt_14 (by decide) ?_
    have hres := Option.some.inj h
    subst hres
    exact hRet 19 _ _ _ hP hD hS dX4_gateHoursAt_19
abbrev rm_X4_hoursAround : Room := { frames := 0, cells := 0, slots := 0, locals := 0 }
theorem fi_X4_hoursAround_X4 : ∀ w ∈ wsX40, w ∈ wsX4_hoursAround := fun _ h => List.mem_cons_of_mem _ (List.mem_append_right _ h)
theorem hdV_X4_hoursAround : yX4_hoursAround.cls = RX4 ∧ yX4_hoursAround.cls ≠ "java/lang/invoke/MethodHandle" ∧ yX4_hoursAround.cls ≠ "java/lang/invoke/VarHandle" ∧ (parseMethodDescriptor yX4_hoursAround.desc).map (fun d => d.parameters.length) = some 0 := by decide +kernel
set_option maxRecDepth 100000 in
set_option maxHeartbeats 4000000 in
theorem c_X4_hoursAround (l : Launch) (G : va_G) (cI cZ : ClassId) (aW : Nat → Nat) (vW : Ob)  (res : Int32) (h : m_X4_hoursAround vW  = some res) : Ct l yX4_hoursAround wsX4_hoursAround rm_X4_hoursAround G cI cZ [.ref (aW 0)] [oX4 aW vW] (some (.int res)) [oX4 aW vW] := by
  refine Ct.of_i (maxL := 1) (by decide) rfl (Nat.le_of_ble_eq_true rfl) ?_
  intro p e s m below meth c args hx hb hml hown hts A hA hEN hP hD hS Q hRet ls hl
  have hown : s.vm.findClass RX4 = some m.cls := hown
  have hl : lv_has ls 1 [(0, .ref (aW 0))] := hl
  unfold m_X4_hoursAround at h
  refine lv_iconst (v := (2 : Int32)) hx hb dX4_hoursAround_0 k_iconst_2 ?_
  refine lv_aload_n hx hb dX4_hoursAround_1 rfl (lv_at hl 0 rfl) ?_
  refine va_get (D := G) (ci := 4) (v := .int (vW 0 3)) (C := RX4) (T := TX4) (N := 13) hx hb hts fi_X4_hoursAround_X4 hown hEN.1 hP 0 rfl rfl 3 (by decide) (hts (.fieldLink RX4 49 "HourWell$World" "off" "I") (List.mem_of_getElem? (i := 1) rfl)) (fun _ h9 => h9) rfl dX4_hoursAround_2 ?_
  refine lv_imul hx hb dX4_hoursAround_5 ?_
  refine lv_iconst (v := (1 : Int32)) hx hb dX4_hoursAround_6 k_iconst_1 ?_
  refine lv_iadd hx hb dX4_hoursAround_7 ?_
  have hres := Option.some.inj h
  subst hres
  exact hRet 8 _ _ _ hP hD hS dX4_hoursAround_8
abbrev rm_X4_openAround : Room := { frames := 2, cells := 0, slots := 0, locals := 44 }
theorem fi_X4_openAround_X4 : ∀ w ∈ wsX40, w ∈ wsX4_openAround := fun _ h => List.mem_cons_of_mem _ (List.mem_append_right _ h)
theorem hdV_X4_openAround : yX4_openAround.cls = RX4 ∧ yX4_openAround.cls ≠ "java/lang/invoke/MethodHandle" ∧ yX4_openAround.cls ≠ "java/lang/invoke/VarHandle" ∧ (parseMethodDescriptor yX4_openAround.desc).map (fun d => d.parameters.length) = some 2 := by decide +kernel
set_option maxRecDepth 100000 in
set_option maxHeartbeats 4000000 in
theorem c_X4_openAround (l : Launch) (G : va_G) (cI cZ : ClassId) (aW : Nat → Nat) (vW : Ob) (x1 : Int32) (x2 : Int32) (res : Int32) (h : m_X4_openAround vW x1 x2 = some res) : Ct l yX4_openAround wsX4_openAround rm_X4_openAround G cI cZ [.ref (aW 0), .int x1, .int x2] [oX4 aW vW, ai cI (aW 6) 7 (vW 6), ai cI (aW 7) 7 (vW 7)] (some (.int res)) [oX4 aW vW, ai cI (aW 6) 7 (vW 6), ai cI (aW 7) 7 (vW 7)] := by
  refine Ct.of_i (maxL := 5) (by decide) rfl (Nat.le_of_ble_eq_true rfl) ?_
  intro p e s m below meth c args hx hb hml hown hts A hA hEN hP hD hS Q hRet ls hl
  have hown : s.vm.findClass RX4 = some m.cls := hown
  have hl : lv_has ls 5 [(0, .ref (aW 0)), (1, .int x1), (2, .int x2)] := hl
  have L9 : ∀ (out : Int32), (∀ ex : Int32, out = ex → ∀ (H : Heap) (locs : List Loc) (ls : Array Slot), va_P G vwCl [oX4 aW vW, ai cI (aW 6) 7 (vW 6), ai cI (aW 7) 7 (vW 7)] H → va_D A [oX4 aW vW, ai cI (aW 6) 7 (vW 6), ai cI (aW 7) 7 (vW 7)] → va_S A s.heap H locs → lv_has ls 5 [(3, .int ex)] → W p l e rm_X4_openAround s m args below meth c H locs 0 0 Q (F0 m 39 ls [])) → ∀ (n : Nat) (x1 : Int32) (x2 : Int32) (x3 : Int32) (x4 : Int32), m_X4_openAround_L9 vW n x1 x2 x3 x4 = some out → ∀ (H : Heap) (locs : List Loc) (ls : Array Slot), va_P G vwCl [oX4 aW vW, ai cI (aW 6) 7 (vW 6), ai cI (aW 7) 7 (vW 7)] H → va_D A [oX4 aW vW, ai cI (aW 6) 7 (vW 6), ai cI (aW 7) 7 (vW 7)] → va_S A s.heap H locs → lv_has ls 5 [(0, .ref (aW 0)), (1, .int x1), (2, .int x2), (3, .int x3), (4, .int x4)] → W p l e rm_X4_openAround s m args below meth c H locs 0 0 Q (F0 m 9 ls []) := by
    intro out hKx
    have j33 : ∀ (rc : Int32 → Int32 → Int32 → Int32 → Option (Int32)), (∀ (x1 : Int32) (x2 : Int32) (x3 : Int32) (x4 : Int32), rc x1 x2 x3 x4 = some out → ∀ (H : Heap) (locs : List Loc) (ls : Array Slot), va_P G vwCl [oX4 aW vW, ai cI (aW 6) 7 (vW 6), ai cI (aW 7) 7 (vW 7)] H → va_D A [oX4 aW vW, ai cI (aW 6) 7 (vW 6), ai cI (aW 7) 7 (vW 7)] → va_S A s.heap H locs → lv_has ls 5 [(0, .ref (aW 0)), (1, .int x1), (2, .int x2), (3, .int x3), (4, .int x4)] → W p l e rm_X4_openAround s m args below meth c H locs 0 0 Q (F0 m 9 ls [])) → ∀ (x1 : Int32) (x2 : Int32) (x3 : Int32) (x4 : Int32), m_X4_openAround_j33 vW rc x1 x2 x3 x4 = some out → ∀ (H : Heap) (locs : List Loc) (ls : Array Slot), va_P G vwCl [oX4 aW vW, ai cI (aW 6) 7 (vW 6), ai cI (aW 7) 7 (vW 7)] H → va_D A [oX4 aW vW, ai cI (aW 6) 7 (vW 6), ai cI (aW 7) 7 (vW 7)] → va_S A s.heap H locs → lv_has ls 5 [(0, .ref (aW 0)), (1, .int x1), (2, .int x2), (3, .int x3), (4, .int x4)] → W p l e rm_X4_openAround s m args below meth c H locs 0 0 Q (F0 m 33 ls []) := by
      intro rc hrc x1 x2 x3 x4 h H locs ls hP hD hS hl
      unfold m_X4_openAround_j33 at h
      refine lv_iinc (v := (x4 + (1 : Int32))) (lv' := [(4, .int (x4 + (1 : Int32))), (0, .ref (aW 0)), (1, .int x1), (2, .int x2), (3, .int x3)]) hx hb dX4_openAround_33 hl (k := 4) rfl (congrArg (fun z => x4 + z) k_iconst_1) (by decide) rfl (fun ls hl => ?_)
      refine lv_goto (tgt := 9) hx hb dX4_openAround_36 (by decide) ?_
      exact hrc x1 x2 x3 (x4 + (1 : Int32)) h _ _ _ hP hD hS (lv_sub hl [1, 2, 3, 4, 0] rfl)
    intro n
    induction n with
    | zero => intro x1 x2 x3 x4 h; exact nomatch (show (none : Option (Int32)) = some out from h)
    | succ n hrc =>
      intro x1 x2 x3 x4 h H locs ls hP hD hS hl
      have h : m_X4_openAround_L9B vW (m_X4_openAround_L9 vW n) x1 x2 x3 x4 = some out := h
      generalize m_X4_openAround_L9 vW n = rc at h hrc
      unfold m_X4_openAround_L9B at h
      refine lv_iload hx hb dX4_openAround_9 (lv_at hl 4 rfl) ?_
      refine lv_aload_n hx hb dX4_openAround_11 rfl (lv_at hl 0 rfl) ?_
      refine va_get (D := G) (ci := 4) (v := .int (vW 0 3)) (C := RX4) (T := TX4) (N := 13) hx hb hts fi_X4_openAround_X4 hown hEN.1 hP 0 rfl rfl 3 (by decide) (hts (.fieldLink RX4 49 "HourWell$World" "off" "I") (List.mem_of_getElem? (i := 1) rfl)) (fun _ h9 => h9) rfl dX4_openAround_12 ?_
      refine lv_icmp_gt (tgt := 39) hx hb dX4_openAround_15 (by decide) (fun c15 => ?_) (fun c15 => ?_)
      · have h := (if_pos c15).symm.trans h
        exact hKx _ (Option.some.inj h).symm _ _ _ hP hD hS (lv_sub hl [3] rfl)
      · have h := (if_neg c15).symm.trans h
        refine lv_aload_n hx hb dX4_openAround_18 rfl (lv_at hl 0 rfl) ?_
        refine lv_iload_n hx hb dX4_openAround_19 rfl (lv_at hl 1 rfl) ?_
        refine lv_iload_n hx hb dX4_openAround_20 rfl (lv_at hl 2 rfl) ?_
        refine lv_iload hx hb dX4_openAround_21 (lv_at hl 4 rfl) ?_
        refine lv_iadd hx hb dX4_openAround_23 ?_
        obtain ⟨o24, ho24, h⟩ := bnd_some h
        refine call_V0 (As := [.int x1, .int (x2 + x4)]) (rest := []) ⟨hx, hb, hml, hown, hts⟩ (c_X4_isOpen l G cI cZ aW vW x1 (x2 + x4) o24 ho24) (cwV 2 hts gX4_openAround_X4_isOpen rfl rfl rfl hdV_X4_isOpen ⟨Nat.le_of_ble_eq_true rfl, Nat.le_of_ble_eq_true rfl⟩) hEN hA hP hD hS [0, 1, 2] rfl (by decide) 0 rfl rfl rfl hl.1 rfl (Nat.le_of_ble_eq_true rfl) dX4_openAround_24 ⟨Nat.le_of_ble_eq_true rfl, Nat.le_of_ble_eq_true rfl⟩ (fun H locs hP hS => ?_)
        refine lv_if_eq (tgt := 33) hx hb dX4_openAround_27 (by decide) (fun c27 => ?_) (fun c27 => ?_)
        · have h := (if_pos c27).symm.trans h
          exact j33 rc hrc x1 x2 x3 x4 h _ _ _ hP hD hS (lv_sub hl [0, 1, 2, 3, 4] rfl)
        · have h := (if_neg c27).symm.trans h
          refine lv_iinc (v := (x3 + (1 : Int32))) (lv' := [(3, .int (x3 + (1 : Int32))), (0, .ref (aW 0)), (1, .int x1), (2, .int x2), (4, .int x4)]) hx hb dX4_openAround_30 hl (k := 3) rfl (congrArg (fun z => x3 + z) k_iconst_1) (by decide) rfl (fun ls hl => ?_)
          exact j33 rc hrc x1 x2 (x3 + (1 : Int32)) x4 h _ _ _ hP hD hS (lv_sub hl [1, 2, 3, 0, 4] rfl)
  unfold m_X4_openAround at h
  refine lv_iconst (v := (0 : Int32)) hx hb dX4_openAround_0 k_iconst_0 ?_
  refine lv_istore_n (lv' := [(3, .int (0 : Int32)), (0, .ref (aW 0)), (1, .int x1), (2, .int x2)]) hx hb dX4_openAround_1 rfl hl (by decide) rfl (fun ls hl => ?_)
  refine lv_aload_n hx hb dX4_openAround_2 rfl (lv_at hl 1 rfl) ?_
  refine va_get (D := G) (ci := 4) (v := .int (vW 0 3)) (C := RX4) (T := TX4) (N := 13) hx hb hts fi_X4_openAround_X4 hown hEN.1 hP 0 rfl rfl 3 (by decide) (hts (.fieldLink RX4 49 "HourWell$World" "off" "I") (List.mem_of_getElem? (i := 1) rfl)) (fun _ h9 => h9) rfl dX4_openAround_3 ?_
  refine lv_ineg hx hb dX4_openAround_6 ?_
  refine lv_istore (lv' := [(4, .int (-(vW 0 3))), (3, .int (0 : Int32)), (0, .ref (aW 0)), (1, .int x1), (2, .int x2)]) hx hb dX4_openAround_7 hl (by decide) rfl (fun ls hl => ?_)
  obtain ⟨o9_1, ho9_1, h⟩ := bnd_some h
  refine L9 o9_1 (fun o9_1e er H locs ls hP hD hS hl => ?_) FU x1 x2 (0 : Int32) (-(vW 0 3)) ho9_1 _ _ _ hP hD hS (lv_sub hl [2, 3, 4, 1, 0] rfl)
  subst er
  refine lv_iload_n hx hb dX4_openAround_39 rfl (lv_at hl 0 rfl) ?_
  have hres := Option.some.inj h
  subst hres
  exact hRet 40 _ _ _ hP hD hS dX4_openAround_40
