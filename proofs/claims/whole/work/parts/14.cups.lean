abbrev rm_X0_forgetAll : Room := { frames := 0, cells := 0, slots := 0, locals := 0 }
theorem fi_X0_forgetAll_X0 : ∀ w ∈ wsX00, w ∈ wsX0_forgetAll := fun _ h => List.mem_cons_of_mem _ (List.mem_append_right _ h)
theorem hdV_X0_forgetAll : yX0_forgetAll.cls = RX0 ∧ yX0_forgetAll.cls ≠ "java/lang/invoke/MethodHandle" ∧ yX0_forgetAll.cls ≠ "java/lang/invoke/VarHandle" ∧ (parseMethodDescriptor yX0_forgetAll.desc).map (fun d => d.parameters.length) = some 0 := by decide +kernel
set_option maxRecDepth 100000 in
set_option maxHeartbeats 4000000 in
theorem c_X0_forgetAll (l : Launch) (G : va_G) (cI cZ : ClassId) (aC : Nat → Nat) (vC : Ob)  (res : Ob) (h : m_X0_forgetAll vC  = some res) : Ct l yX0_forgetAll wsX0_forgetAll rm_X0_forgetAll G cI cZ [.ref (aC 0)] [oX0 aC vC, ai cI (aC 4) 6 (vC 4), ai cI (aC 5) 6 (vC 5), ai cI (aC 6) 6 (vC 6), ai cI (aC 7) 6 (vC 7), ai cI (aC 8) 64 (vC 8)] none [oX0 aC res, ai cI (aC 4) 6 (res 4), ai cI (aC 5) 6 (res 5), ai cI (aC 6) 6 (res 6), ai cI (aC 7) 6 (res 7), ai cI (aC 8) 64 (res 8)] := by
  refine Ct.of_v (maxL := 1) (by decide) rfl (Nat.le_of_ble_eq_true rfl) ?_
  intro p e s m below meth c args hx hb hml hown hts A hA hEN hP hD hS Q hRet ls hl
  have hown : s.vm.findClass RX0 = some m.cls := hown
  have hl : lv_has ls 1 [(0, .ref (aC 0))] := hl
  unfold m_X0_forgetAll at h
  refine lv_aload_n hx hb dX0_forgetAll_0 rfl (lv_at hl 0 rfl) ?_
  refine lv_iconst (v := (0 : Int32)) hx hb dX0_forgetAll_1 k_iconst_0 ?_
  refine va_put (D := G) (ci := 0) (v := .int (0 : Int32)) (ty := .int) (C := RX0) (T := TX0) (N := 8) hx hb hts fi_X0_forgetAll_X0 tyX0 tyX0_ok nmX0 hown hEN.1 hP hD hS 0 rfl rfl 0 (by decide) (hts (.fieldLink RX0 27 "HourWell$Cups" "swapped" "I") (List.mem_of_getElem? (i := 1) rfl)) (fun _ h9 => h9) rfl (by decide +kernel) rfl rfl (Nat.le_of_ble_eq_true rfl) dX0_forgetAll_2 (fun H locs hP hD hS => ?_)
  have hP : va_P G vwCl [oX0 aC (st vC 0 0 (0 : Int32)), ai cI (aC 4) 6 (vC 4), ai cI (aC 5) 6 (vC 5), ai cI (aC 6) 6 (vC 6), ai cI (aC 7) 6 (vC 7), ai cI (aC 8) 64 (vC 8)] H := hP
  have hD : va_D A [oX0 aC (st vC 0 0 (0 : Int32)), ai cI (aC 4) 6 (vC 4), ai cI (aC 5) 6 (vC 5), ai cI (aC 6) 6 (vC 6), ai cI (aC 7) 6 (vC 7), ai cI (aC 8) 64 (vC 8)] := hD
  refine lv_aload_n hx hb dX0_forgetAll_5 rfl (lv_at hl 0 rfl) ?_
  refine lv_iconst (v := (0 : Int32)) hx hb dX0_forgetAll_6 k_iconst_0 ?_
  refine va_put (D := G) (ci := 0) (v := .int (0 : Int32)) (ty := .int) (C := RX0) (T := TX0) (N := 8) hx hb hts fi_X0_forgetAll_X0 tyX0 tyX0_ok nmX0 hown hEN.1 hP hD hS 0 rfl rfl 1 (by decide) (hts (.fieldLink RX0 31 "HourWell$Cups" "tasted" "I") (List.mem_of_getElem? (i := 2) rfl)) (fun _ h9 => h9) rfl (by decide +kernel) rfl rfl (Nat.le_of_ble_eq_true rfl) dX0_forgetAll_7 (fun H locs hP hD hS => ?_)
  have hP : va_P G vwCl [oX0 aC (st (st vC 0 0 (0 : Int32)) 0 1 (0 : Int32)), ai cI (aC 4) 6 (vC 4), ai cI (aC 5) 6 (vC 5), ai cI (aC 6) 6 (vC 6), ai cI (aC 7) 6 (vC 7), ai cI (aC 8) 64 (vC 8)] H := hP
  have hD : va_D A [oX0 aC (st (st vC 0 0 (0 : Int32)) 0 1 (0 : Int32)), ai cI (aC 4) 6 (vC 4), ai cI (aC 5) 6 (vC 5), ai cI (aC 6) 6 (vC 6), ai cI (aC 7) 6 (vC 7), ai cI (aC 8) 64 (vC 8)] := hD
  have hres := Option.some.inj h
  subst hres
  exact hRet 10 _ _ _ hP hD hS dX0_forgetAll_10
abbrev rm_X0_addSwap : Room := { frames := 1, cells := 0, slots := 0, locals := 22 }
theorem fi_X0_addSwap_X0 : ∀ w ∈ wsX00, w ∈ wsX0_addSwap := fun _ h => List.mem_cons_of_mem _ (List.mem_append_right _ h)
theorem hdV_X0_addSwap : yX0_addSwap.cls = RX0 ∧ yX0_addSwap.cls ≠ "java/lang/invoke/MethodHandle" ∧ yX0_addSwap.cls ≠ "java/lang/invoke/VarHandle" ∧ (parseMethodDescriptor yX0_addSwap.desc).map (fun d => d.parameters.length) = some 2 := by decide +kernel
set_option maxRecDepth 100000 in
set_option maxHeartbeats 4000000 in
theorem c_X0_addSwap (l : Launch) (G : va_G) (cI cZ : ClassId) (aC : Nat → Nat) (vC : Ob) (x1 : Int32) (x2 : Int32) (res : Int32 × Ob) (h : m_X0_addSwap vC x1 x2 = some res) : Ct l yX0_addSwap wsX0_addSwap rm_X0_addSwap G cI cZ [.ref (aC 0), .int x1, .int x2] [oX0 aC vC, ai cI (aC 4) 6 (vC 4), ai cI (aC 5) 6 (vC 5), ai cI (aC 6) 6 (vC 6), ai cI (aC 7) 6 (vC 7), ai cI (aC 8) 64 (vC 8)] (some (.int res.1)) [oX0 aC res.2, ai cI (aC 4) 6 (res.2 4), ai cI (aC 5) 6 (res.2 5), ai cI (aC 6) 6 (res.2 6), ai cI (aC 7) 6 (res.2 7), ai cI (aC 8) 64 (res.2 8)] := by
  refine Ct.of_z (maxL := 3) (by decide) rfl (Nat.le_of_ble_eq_true rfl) ?_
  intro p e s m below meth c args hx hb hml hown hts A hA hEN hP hD hS Q hRet ls hl
  have hown : s.vm.findClass RX0 = some m.cls := hown
  have hl : lv_has ls 3 [(0, .ref (aC 0)), (1, .int x1), (2, .int x2)] := hl
  unfold m_X0_addSwap at h
  refine lv_aload_n hx hb dX0_addSwap_0 rfl (lv_at hl 0 rfl) ?_
  refine va_get (D := G) (ci := 0) (v := .int (vC 0 0)) (C := RX0) (T := TX0) (N := 8) hx hb hts fi_X0_addSwap_X0 hown hEN.1 hP 0 rfl rfl 0 (by decide) (hts (.fieldLink RX0 27 "HourWell$Cups" "swapped" "I") (List.mem_of_getElem? (i := 1) rfl)) (fun _ h9 => h9) rfl dX0_addSwap_1 ?_
  refine lv_iconst (v := (0 : Int32)) hx hb dX0_addSwap_4 k_iconst_0 ?_
  refine lv_iconst (v := (5 : Int32)) hx hb dX0_addSwap_5 k_iconst_5 ?_
  obtain ⟨o6, ho6, h⟩ := bnd_some h
  refine call_SN0 (As := [.int (vC 0 0), .int (0 : Int32), .int (5 : Int32)]) (rest := []) ⟨hx, hb, hml, hown, hts⟩ (c_X5_isWithin l G cI cZ  (vC 0 0) (0 : Int32) (5 : Int32) o6 ho6) ⟨va_cnB 3 hts gX0_addSwap_X5_isWithin_n34 rfl rfl rfl (hEN.2.1 _ (List.mem_of_getElem? (i := 3) rfl)) (hts (.initialized RX5) (List.mem_of_getElem? (i := 5) rfl)) hdS_X5_isWithin ⟨Nat.le_of_ble_eq_true rfl, Nat.le_of_ble_eq_true rfl⟩, hts (.static yX5_isWithin) (List.mem_of_getElem? (i := 4) rfl), trivial⟩ hEN hA hP hD hS [] rfl (by decide) rfl hl.1 rfl (Nat.le_of_ble_eq_true rfl) dX0_addSwap_6 ⟨Nat.le_of_ble_eq_true rfl, Nat.le_of_ble_eq_true rfl⟩ (fun H locs hP hS => ?_)
  refine lv_if_ne (tgt := 14) hx hb dX0_addSwap_9 (by decide) (fun c9 => ?_) (fun c9 => ?_)
  · have h := (if_neg c9).symm.trans h
    refine lv_aload_n hx hb dX0_addSwap_14 rfl (lv_at hl 0 rfl) ?_
    refine va_get (D := G) (ci := 0) (v := .ref (aC 4)) (C := RX0) (T := TX0) (N := 8) hx hb hts fi_X0_addSwap_X0 hown hEN.1 hP 0 rfl rfl 3 (by decide) (hts (.fieldLink RX0 9 "HourWell$Cups" "firstSeats" "[I") (List.mem_of_getElem? (i := 2) rfl)) (fun _ h9 => h9) rfl dX0_addSwap_15 ?_
    refine lv_aload_n hx hb dX0_addSwap_18 rfl (lv_at hl 0 rfl) ?_
    refine va_get (D := G) (ci := 0) (v := .int (vC 0 0)) (C := RX0) (T := TX0) (N := 8) hx hb hts fi_X0_addSwap_X0 hown hEN.1 hP 0 rfl rfl 0 (by decide) (hts (.fieldLink RX0 27 "HourWell$Cups" "swapped" "I") (List.mem_of_getElem? (i := 1) rfl)) (fun _ h9 => h9) rfl dX0_addSwap_19 ?_
    refine lv_iload_n hx hb dX0_addSwap_22 rfl (lv_at hl 1 rfl) ?_
    obtain ⟨hg23, h⟩ := grd_some h
    refine va_iast (f := (vC 4)) hx hb hEN.1 hP hD hS 1 0 rfl rfl (inb_in hg23) dX0_addSwap_23 (fun H locs hP hD hS => ?_)
    have hP : va_P G vwCl [oX0 aC vC, ai cI (aC 4) 6 (upd (vC 4) (Int32.toNatClampNeg (vC 0 0)) x1), ai cI (aC 5) 6 (vC 5), ai cI (aC 6) 6 (vC 6), ai cI (aC 7) 6 (vC 7), ai cI (aC 8) 64 (vC 8)] H := hP
    have hD : va_D A [oX0 aC vC, ai cI (aC 4) 6 (upd (vC 4) (Int32.toNatClampNeg (vC 0 0)) x1), ai cI (aC 5) 6 (vC 5), ai cI (aC 6) 6 (vC 6), ai cI (aC 7) 6 (vC 7), ai cI (aC 8) 64 (vC 8)] := hD
    refine lv_aload_n hx hb dX0_addSwap_24 rfl (lv_at hl 0 rfl) ?_
    refine va_get (D := G) (ci := 0) (v := .ref (aC 5)) (C := RX0) (T := TX0) (N := 8) hx hb hts fi_X0_addSwap_X0 hown hEN.1 hP 0 rfl rfl 4 (by decide) (hts (.fieldLink RX0 15 "HourWell$Cups" "secondSeats" "[I") (List.mem_of_getElem? (i := 3) rfl)) (fun _ h9 => h9) rfl dX0_addSwap_25 ?_
    refine lv_aload_n hx hb dX0_addSwap_28 rfl (lv_at hl 0 rfl) ?_
    refine va_get (D := G) (ci := 0) (v := .int (vC 0 0)) (C := RX0) (T := TX0) (N := 8) hx hb hts fi_X0_addSwap_X0 hown hEN.1 hP 0 rfl rfl 0 (by decide) (hts (.fieldLink RX0 27 "HourWell$Cups" "swapped" "I") (List.mem_of_getElem? (i := 1) rfl)) (fun _ h9 => h9) rfl dX0_addSwap_29 ?_
    refine lv_iload_n hx hb dX0_addSwap_32 rfl (lv_at hl 2 rfl) ?_
    obtain ⟨hg33, h⟩ := grd_some h
    refine va_iast (f := (vC 5)) hx hb hEN.1 hP hD hS 2 0 rfl rfl (inb_in hg33) dX0_addSwap_33 (fun H locs hP hD hS => ?_)
    have hP : va_P G vwCl [oX0 aC vC, ai cI (aC 4) 6 (upd (vC 4) (Int32.toNatClampNeg (vC 0 0)) x1), ai cI (aC 5) 6 (upd (vC 5) (Int32.toNatClampNeg (vC 0 0)) x2), ai cI (aC 6) 6 (vC 6), ai cI (aC 7) 6 (vC 7), ai cI (aC 8) 64 (vC 8)] H := hP
    have hD : va_D A [oX0 aC vC, ai cI (aC 4) 6 (upd (vC 4) (Int32.toNatClampNeg (vC 0 0)) x1), ai cI (aC 5) 6 (upd (vC 5) (Int32.toNatClampNeg (vC 0 0)) x2), ai cI (aC 6) 6 (vC 6), ai cI (aC 7) 6 (vC 7), ai cI (aC 8) 64 (vC 8)] := hD
    refine lv_aload_n hx hb dX0_addSwap_34 rfl (lv_at hl 0 rfl) ?_
    refine lv_dup hx hb dX0_addSwap_35 rfl ?_
    refine va_get (D := G) (ci := 0) (v := .int (vC 0 0)) (C := RX0) (T := TX0) (N := 8) hx hb hts fi_X0_addSwap_X0 hown hEN.1 hP 0 rfl rfl 0 (by decide) (hts (.fieldLink RX0 27 "HourWell$Cups" "swapped" "I") (List.mem_of_getElem? (i := 1) rfl)) (fun _ h9 => h9) rfl dX0_addSwap_36 ?_
    refine lv_iconst (v := (1 : Int32)) hx hb dX0_addSwap_39 k_iconst_1 ?_
    refine lv_iadd hx hb dX0_addSwap_40 ?_
    refine va_put (D := G) (ci := 0) (v := .int ((vC 0 0) + (1 : Int32))) (ty := .int) (C := RX0) (T := TX0) (N := 8) hx hb hts fi_X0_addSwap_X0 tyX0 tyX0_ok nmX0 hown hEN.1 hP hD hS 0 rfl rfl 0 (by decide) (hts (.fieldLink RX0 27 "HourWell$Cups" "swapped" "I") (List.mem_of_getElem? (i := 1) rfl)) (fun _ h9 => h9) rfl (by decide +kernel) rfl rfl (Nat.le_of_ble_eq_true rfl) dX0_addSwap_41 (fun H locs hP hD hS => ?_)
    have hP : va_P G vwCl [oX0 aC (st vC 0 0 ((vC 0 0) + (1 : Int32))), ai cI (aC 4) 6 (upd (vC 4) (Int32.toNatClampNeg (vC 0 0)) x1), ai cI (aC 5) 6 (upd (vC 5) (Int32.toNatClampNeg (vC 0 0)) x2), ai cI (aC 6) 6 (vC 6), ai cI (aC 7) 6 (vC 7), ai cI (aC 8) 64 (vC 8)] H := hP
    have hD : va_D A [oX0 aC (st vC 0 0 ((vC 0 0) + (1 : Int32))), ai cI (aC 4) 6 (upd (vC 4) (Int32.toNatClampNeg (vC 0 0)) x1), ai cI (aC 5) 6 (upd (vC 5) (Int32.toNatClampNeg (vC 0 0)) x2), ai cI (aC 6) 6 (vC 6), ai cI (aC 7) 6 (vC 7), ai cI (aC 8) 64 (vC 8)] := hD
    refine lv_iconst (v := (1 : Int32)) hx hb dX0_addSwap_44 k_iconst_1 ?_
    have hres := Option.some.inj h
    subst hres
    exact hRet 45 nz1 _ _ _ hP hD hS dX0_addSwap_45
  · have h := (if_pos c9).symm.trans h
    refine lv_iconst (v := (0 : Int32)) hx hb dX0_addSwap_12 k_iconst_0 ?_
    have hres := Option.some.inj h
    subst hres
    exact hRet 13 nz0 _ _ _ hP hD hS dX0_addSwap_13
abbrev rm_X0_addTaste : Room := { frames := 1, cells := 0, slots := 0, locals := 22 }
theorem fi_X0_addTaste_X0 : ∀ w ∈ wsX00, w ∈ wsX0_addTaste := fun _ h => List.mem_cons_of_mem _ (List.mem_append_right _ h)
theorem hdV_X0_addTaste : yX0_addTaste.cls = RX0 ∧ yX0_addTaste.cls ≠ "java/lang/invoke/MethodHandle" ∧ yX0_addTaste.cls ≠ "java/lang/invoke/VarHandle" ∧ (parseMethodDescriptor yX0_addTaste.desc).map (fun d => d.parameters.length) = some 2 := by decide +kernel
set_option maxRecDepth 100000 in
set_option maxHeartbeats 4000000 in
theorem c_X0_addTaste (l : Launch) (G : va_G) (cI cZ : ClassId) (aC : Nat → Nat) (vC : Ob) (x1 : Int32) (x2 : Int32) (res : Int32 × Ob) (h : m_X0_addTaste vC x1 x2 = some res) : Ct l yX0_addTaste wsX0_addTaste rm_X0_addTaste G cI cZ [.ref (aC 0), .int x1, .int x2] [oX0 aC vC, ai cI (aC 4) 6 (vC 4), ai cI (aC 5) 6 (vC 5), ai cI (aC 6) 6 (vC 6), ai cI (aC 7) 6 (vC 7), ai cI (aC 8) 64 (vC 8)] (some (.int res.1)) [oX0 aC res.2, ai cI (aC 4) 6 (res.2 4), ai cI (aC 5) 6 (res.2 5), ai cI (aC 6) 6 (res.2 6), ai cI (aC 7) 6 (res.2 7), ai cI (aC 8) 64 (res.2 8)] := by
  refine Ct.of_z (maxL := 3) (by decide) rfl (Nat.le_of_ble_eq_true rfl) ?_
  intro p e s m below meth c args hx hb hml hown hts A hA hEN hP hD hS Q hRet ls hl
  have hown : s.vm.findClass RX0 = some m.cls := hown
  have hl : lv_has ls 3 [(0, .ref (aC 0)), (1, .int x1), (2, .int x2)] := hl
  unfold m_X0_addTaste at h
  refine lv_aload_n hx hb dX0_addTaste_0 rfl (lv_at hl 0 rfl) ?_
  refine va_get (D := G) (ci := 0) (v := .int (vC 0 1)) (C := RX0) (T := TX0) (N := 8) hx hb hts fi_X0_addTaste_X0 hown hEN.1 hP 0 rfl rfl 1 (by decide) (hts (.fieldLink RX0 31 "HourWell$Cups" "tasted" "I") (List.mem_of_getElem? (i := 1) rfl)) (fun _ h9 => h9) rfl dX0_addTaste_1 ?_
  refine lv_iconst (v := (0 : Int32)) hx hb dX0_addTaste_4 k_iconst_0 ?_
  refine lv_iconst (v := (5 : Int32)) hx hb dX0_addTaste_5 k_iconst_5 ?_
  obtain ⟨o6, ho6, h⟩ := bnd_some h
  refine call_SN0 (As := [.int (vC 0 1), .int (0 : Int32), .int (5 : Int32)]) (rest := []) ⟨hx, hb, hml, hown, hts⟩ (c_X5_isWithin l G cI cZ  (vC 0 1) (0 : Int32) (5 : Int32) o6 ho6) ⟨va_cnB 3 hts gX0_addTaste_X5_isWithin_n34 rfl rfl rfl (hEN.2.1 _ (List.mem_of_getElem? (i := 3) rfl)) (hts (.initialized RX5) (List.mem_of_getElem? (i := 5) rfl)) hdS_X5_isWithin ⟨Nat.le_of_ble_eq_true rfl, Nat.le_of_ble_eq_true rfl⟩, hts (.static yX5_isWithin) (List.mem_of_getElem? (i := 4) rfl), trivial⟩ hEN hA hP hD hS [] rfl (by decide) rfl hl.1 rfl (Nat.le_of_ble_eq_true rfl) dX0_addTaste_6 ⟨Nat.le_of_ble_eq_true rfl, Nat.le_of_ble_eq_true rfl⟩ (fun H locs hP hS => ?_)
  refine lv_if_ne (tgt := 14) hx hb dX0_addTaste_9 (by decide) (fun c9 => ?_) (fun c9 => ?_)
  · have h := (if_neg c9).symm.trans h
    refine lv_aload_n hx hb dX0_addTaste_14 rfl (lv_at hl 0 rfl) ?_
    refine va_get (D := G) (ci := 0) (v := .ref (aC 6)) (C := RX0) (T := TX0) (N := 8) hx hb hts fi_X0_addTaste_X0 hown hEN.1 hP 0 rfl rfl 5 (by decide) (hts (.fieldLink RX0 18 "HourWell$Cups" "tastedSeats" "[I") (List.mem_of_getElem? (i := 2) rfl)) (fun _ h9 => h9) rfl dX0_addTaste_15 ?_
    refine lv_aload_n hx hb dX0_addTaste_18 rfl (lv_at hl 0 rfl) ?_
    refine va_get (D := G) (ci := 0) (v := .int (vC 0 1)) (C := RX0) (T := TX0) (N := 8) hx hb hts fi_X0_addTaste_X0 hown hEN.1 hP 0 rfl rfl 1 (by decide) (hts (.fieldLink RX0 31 "HourWell$Cups" "tasted" "I") (List.mem_of_getElem? (i := 1) rfl)) (fun _ h9 => h9) rfl dX0_addTaste_19 ?_
    refine lv_iload_n hx hb dX0_addTaste_22 rfl (lv_at hl 1 rfl) ?_
    obtain ⟨hg23, h⟩ := grd_some h
    refine va_iast (f := (vC 6)) hx hb hEN.1 hP hD hS 3 0 rfl rfl (inb_in hg23) dX0_addTaste_23 (fun H locs hP hD hS => ?_)
    have hP : va_P G vwCl [oX0 aC vC, ai cI (aC 4) 6 (vC 4), ai cI (aC 5) 6 (vC 5), ai cI (aC 6) 6 (upd (vC 6) (Int32.toNatClampNeg (vC 0 1)) x1), ai cI (aC 7) 6 (vC 7), ai cI (aC 8) 64 (vC 8)] H := hP
    have hD : va_D A [oX0 aC vC, ai cI (aC 4) 6 (vC 4), ai cI (aC 5) 6 (vC 5), ai cI (aC 6) 6 (upd (vC 6) (Int32.toNatClampNeg (vC 0 1)) x1), ai cI (aC 7) 6 (vC 7), ai cI (aC 8) 64 (vC 8)] := hD
    refine lv_aload_n hx hb dX0_addTaste_24 rfl (lv_at hl 0 rfl) ?_
    refine va_get (D := G) (ci := 0) (v := .ref (aC 7)) (C := RX0) (T := TX0) (N := 8) hx hb hts fi_X0_addTaste_X0 hown hEN.1 hP 0 rfl rfl 6 (by decide) (hts (.fieldLink RX0 21 "HourWell$Cups" "tastedCups" "[I") (List.mem_of_getElem? (i := 3) rfl)) (fun _ h9 => h9) rfl dX0_addTaste_25 ?_
    refine lv_aload_n hx hb dX0_addTaste_28 rfl (lv_at hl 0 rfl) ?_
    refine va_get (D := G) (ci := 0) (v := .int (vC 0 1)) (C := RX0) (T := TX0) (N := 8) hx hb hts fi_X0_addTaste_X0 hown hEN.1 hP 0 rfl rfl 1 (by decide) (hts (.fieldLink RX0 31 "HourWell$Cups" "tasted" "I") (List.mem_of_getElem? (i := 1) rfl)) (fun _ h9 => h9) rfl dX0_addTaste_29 ?_
    refine lv_iload_n hx hb dX0_addTaste_32 rfl (lv_at hl 2 rfl) ?_
    obtain ⟨hg33, h⟩ := grd_some h
    refine va_iast (f := (vC 7)) hx hb hEN.1 hP hD hS 4 0 rfl rfl (inb_in hg33) dX0_addTaste_33 (fun H locs hP hD hS => ?_)
    have hP : va_P G vwCl [oX0 aC vC, ai cI (aC 4) 6 (vC 4), ai cI (aC 5) 6 (vC 5), ai cI (aC 6) 6 (upd (vC 6) (Int32.toNatClampNeg (vC 0 1)) x1), ai cI (aC 7) 6 (upd (vC 7) (Int32.toNatClampNeg (vC 0 1)) x2), ai cI (aC 8) 64 (vC 8)] H := hP
    have hD : va_D A [oX0 aC vC, ai cI (aC 4) 6 (vC 4), ai cI (aC 5) 6 (vC 5), ai cI (aC 6) 6 (upd (vC 6) (Int32.toNatClampNeg (vC 0 1)) x1), ai cI (aC 7) 6 (upd (vC 7) (Int32.toNatClampNeg (vC 0 1)) x2), ai cI (aC 8) 64 (vC 8)] := hD
    refine lv_aload_n hx hb dX0_addTaste_34 rfl (lv_at hl 0 rfl) ?_
    refine lv_dup hx hb dX0_addTaste_35 rfl ?_
    refine va_get (D := G) (ci := 0) (v := .int (vC 0 1)) (C := RX0) (T := TX0) (N := 8) hx hb hts fi_X0_addTaste_X0 hown hEN.1 hP 0 rfl rfl 1 (by decide) (hts (.fieldLink RX0 31 "HourWell$Cups" "tasted" "I") (List.mem_of_getElem? (i := 1) rfl)) (fun _ h9 => h9) rfl dX0_addTaste_36 ?_
    refine lv_iconst (v := (1 : Int32)) hx hb dX0_addTaste_39 k_iconst_1 ?_
    refine lv_iadd hx hb dX0_addTaste_40 ?_
    refine va_put (D := G) (ci := 0) (v := .int ((vC 0 1) + (1 : Int32))) (ty := .int) (C := RX0) (T := TX0) (N := 8) hx hb hts fi_X0_addTaste_X0 tyX0 tyX0_ok nmX0 hown hEN.1 hP hD hS 0 rfl rfl 1 (by decide) (hts (.fieldLink RX0 31 "HourWell$Cups" "tasted" "I") (List.mem_of_getElem? (i := 1) rfl)) (fun _ h9 => h9) rfl (by decide +kernel) rfl rfl (Nat.le_of_ble_eq_true rfl) dX0_addTaste_41 (fun H locs hP hD hS => ?_)
    have hP : va_P G vwCl [oX0 aC (st vC 0 1 ((vC 0 1) + (1 : Int32))), ai cI (aC 4) 6 (vC 4), ai cI (aC 5) 6 (vC 5), ai cI (aC 6) 6 (upd (vC 6) (Int32.toNatClampNeg (vC 0 1)) x1), ai cI (aC 7) 6 (upd (vC 7) (Int32.toNatClampNeg (vC 0 1)) x2), ai cI (aC 8) 64 (vC 8)] H := hP
    have hD : va_D A [oX0 aC (st vC 0 1 ((vC 0 1) + (1 : Int32))), ai cI (aC 4) 6 (vC 4), ai cI (aC 5) 6 (vC 5), ai cI (aC 6) 6 (upd (vC 6) (Int32.toNatClampNeg (vC 0 1)) x1), ai cI (aC 7) 6 (upd (vC 7) (Int32.toNatClampNeg (vC 0 1)) x2), ai cI (aC 8) 64 (vC 8)] := hD
    refine lv_iconst (v := (1 : Int32)) hx hb dX0_addTaste_44 k_iconst_1 ?_
    have hres := Option.some.inj h
    subst hres
    exact hRet 45 nz1 _ _ _ hP hD hS dX0_addTaste_45
  · have h := (if_pos c9).symm.trans h
    refine lv_iconst (v := (0 : Int32)) hx hb dX0_addTaste_12 k_iconst_0 ?_
    have hres := Option.some.inj h
    subst hres
    exact hRet 13 nz0 _ _ _ hP hD hS dX0_addTaste_13
abbrev rm_X0_rowAtFirst : Room := { frames := 0, cells := 0, slots := 0, locals := 0 }
theorem hdS_X0_rowAtFirst : yX0_rowAtFirst.cls ≠ "java/lang/invoke/MethodHandle" ∧ yX0_rowAtFirst.cls ≠ "java/lang/invoke/VarHandle" ∧ (parseMethodDescriptor yX0_rowAtFirst.desc).map (fun d => d.parameters.length) = some 1 := by decide +kernel
set_option maxRecDepth 100000 in
set_option maxHeartbeats 4000000 in
theorem c_X0_rowAtFirst (l : Launch) (G : va_G) (cI cZ : ClassId)   (x0 : Int32) (res : Int32) (h : m_X0_rowAtFirst  x0 = some res) : Ct l yX0_rowAtFirst wsX0_rowAtFirst rm_X0_rowAtFirst G cI cZ [.int x0] [] (some (.int res)) [] := by
  refine Ct.of_i (maxL := 3) (by decide) rfl (Nat.le_of_ble_eq_true rfl) ?_
  intro p e s m below meth c args hx hb hml hown hts A hA hEN hP hD hS Q hRet ls hl
  have hown : s.vm.findClass RX0 = some m.cls := hown
  have hl : lv_has ls 3 [(0, .int x0)] := hl
  have L4 : ∀ (out : Int32), (∀ ex : Int32, out = ex → ∀ (H : Heap) (locs : List Loc) (ls : Array Slot), va_P G vwCl [] H → va_D A [] → va_S A s.heap H locs → lv_has ls 3 [(1, .int ex)] → W p l e rm_X0_rowAtFirst s m args below meth c H locs 0 0 Q (F0 m 23 ls [])) → ∀ (n : Nat) (x0 : Int32) (x1 : Int32) (x2 : Int32), m_X0_rowAtFirst_L4  n x0 x1 x2 = some out → ∀ (H : Heap) (locs : List Loc) (ls : Array Slot), va_P G vwCl [] H → va_D A [] → va_S A s.heap H locs → lv_has ls 3 [(0, .int x0), (1, .int x1), (2, .int x2)] → W p l e rm_X0_rowAtFirst s m args below meth c H locs 0 0 Q (F0 m 4 ls []) := by
    intro out hKx
    intro n
    induction n with
    | zero => intro x0 x1 x2 h; exact nomatch (show (none : Option (Int32)) = some out from h)
    | succ n hrc =>
      intro x0 x1 x2 h H locs ls hP hD hS hl
      have h : m_X0_rowAtFirst_L4B  (m_X0_rowAtFirst_L4  n) x0 x1 x2 = some out := h
      generalize m_X0_rowAtFirst_L4  n = rc at h hrc
      unfold m_X0_rowAtFirst_L4B at h
      refine lv_iload_n hx hb dX0_rowAtFirst_4 rfl (lv_at hl 2 rfl) ?_
      refine lv_iload_n hx hb dX0_rowAtFirst_5 rfl (lv_at hl 0 rfl) ?_
      refine lv_icmp_ge (tgt := 23) hx hb dX0_rowAtFirst_6 (by decide) (fun c6 => ?_) (fun c6 => ?_)
      · have h := (if_pos c6).symm.trans h
        exact hKx _ (Option.some.inj h).symm _ _ _ hP hD hS (lv_sub hl [1] rfl)
      · have h := (if_neg c6).symm.trans h
        refine lv_iload_n hx hb dX0_rowAtFirst_9 rfl (lv_at hl 1 rfl) ?_
        refine lv_iload_n hx hb dX0_rowAtFirst_10 rfl (lv_at hl 2 rfl) ?_
        refine lv_iconst (v := (3 : Int32)) hx hb dX0_rowAtFirst_11 k_iconst_3 ?_
        refine lv_iload_n hx hb dX0_rowAtFirst_12 rfl (lv_at hl 2 rfl) ?_
        refine lv_imul hx hb dX0_rowAtFirst_13 ?_
        refine lv_ishl hx hb dX0_rowAtFirst_14 ?_
        refine lv_ior hx hb dX0_rowAtFirst_15 ?_
        refine lv_istore_n (lv' := [(1, .int (x1 ||| (x2 <<< (((3 : Int32) * x2) &&& 31)))), (0, .int x0), (2, .int x2)]) hx hb dX0_rowAtFirst_16 rfl hl (by decide) rfl (fun ls hl => ?_)
        refine lv_iinc (v := (x2 + (1 : Int32))) (lv' := [(2, .int (x2 + (1 : Int32))), (1, .int (x1 ||| (x2 <<< (((3 : Int32) * x2) &&& 31)))), (0, .int x0)]) hx hb dX0_rowAtFirst_17 hl (k := 2) rfl (congrArg (fun z => x2 + z) k_iconst_1) (by decide) rfl (fun ls hl => ?_)
        refine lv_goto (tgt := 4) hx hb dX0_rowAtFirst_20 (by decide) ?_
        exact hrc x0 (x1 ||| (x2 <<< (((3 : Int32) * x2) &&& 31))) (x2 + (1 : Int32)) h _ _ _ hP hD hS (lv_sub hl [2, 1, 0] rfl)
  unfold m_X0_rowAtFirst at h
  refine lv_iconst (v := (0 : Int32)) hx hb dX0_rowAtFirst_0 k_iconst_0 ?_
  refine lv_istore_n (lv' := [(1, .int (0 : Int32)), (0, .int x0)]) hx hb dX0_rowAtFirst_1 rfl hl (by decide) rfl (fun ls hl => ?_)
  refine lv_iconst (v := (0 : Int32)) hx hb dX0_rowAtFirst_2 k_iconst_0 ?_
  refine lv_istore_n (lv' := [(2, .int (0 : Int32)), (1, .int (0 : Int32)), (0, .int x0)]) hx hb dX0_rowAtFirst_3 rfl hl (by decide) rfl (fun ls hl => ?_)
  obtain ⟨o4_1, ho4_1, h⟩ := bnd_some h
  refine L4 o4_1 (fun o4_1e er H locs ls hP hD hS hl => ?_) FU x0 (0 : Int32) (0 : Int32) ho4_1 _ _ _ hP hD hS (lv_sub hl [2, 1, 0] rfl)
  subst er
  refine lv_iload_n hx hb dX0_rowAtFirst_23 rfl (lv_at hl 0 rfl) ?_
  have hres := Option.some.inj h
  subst hres
  exact hRet 24 _ _ _ hP hD hS dX0_rowAtFirst_24
abbrev rm_X0_addRow : Room := { frames := 1, cells := 0, slots := 0, locals := 22 }
theorem fi_X0_addRow_X0 : ∀ w ∈ wsX00, w ∈ wsX0_addRow := fun _ h => List.mem_cons_of_mem _ (List.mem_append_right _ h)
theorem hdV_X0_addRow : yX0_addRow.cls = RX0 ∧ yX0_addRow.cls ≠ "java/lang/invoke/MethodHandle" ∧ yX0_addRow.cls ≠ "java/lang/invoke/VarHandle" ∧ (parseMethodDescriptor yX0_addRow.desc).map (fun d => d.parameters.length) = some 1 := by decide +kernel
set_option maxRecDepth 100000 in
set_option maxHeartbeats 4000000 in
theorem c_X0_addRow (l : Launch) (G : va_G) (cI cZ : ClassId) (aC : Nat → Nat) (vC : Ob) (x1 : Int32) (res : Ob) (h : m_X0_addRow vC x1 = some res) : Ct l yX0_addRow wsX0_addRow rm_X0_addRow G cI cZ [.ref (aC 0), .int x1] [oX0 aC vC, ai cI (aC 4) 6 (vC 4), ai cI (aC 5) 6 (vC 5), ai cI (aC 6) 6 (vC 6), ai cI (aC 7) 6 (vC 7), ai cI (aC 8) 64 (vC 8)] none [oX0 aC res, ai cI (aC 4) 6 (res 4), ai cI (aC 5) 6 (res 5), ai cI (aC 6) 6 (res 6), ai cI (aC 7) 6 (res 7), ai cI (aC 8) 64 (res 8)] := by
  refine Ct.of_v (maxL := 3) (by decide) rfl (Nat.le_of_ble_eq_true rfl) ?_
  intro p e s m below meth c args hx hb hml hown hts A hA hEN hP hD hS Q hRet ls hl
  have hown : s.vm.findClass RX0 = some m.cls := hown
  have hl : lv_has ls 3 [(0, .ref (aC 0)), (1, .int x1)] := hl
  have L2 : ∀ (out : (Ob) ⊕ (Ob × Int32)), (∀ r : Ob, out = Sum.inl r → r = res) → (∀ ex : Ob × Int32, out = Sum.inr ex → ∀ (H : Heap) (locs : List Loc) (ls : Array Slot), va_P G vwCl [oX0 aC ex.1, ai cI (aC 4) 6 (ex.1 4), ai cI (aC 5) 6 (ex.1 5), ai cI (aC 6) 6 (ex.1 6), ai cI (aC 7) 6 (ex.1 7), ai cI (aC 8) 64 (ex.1 8)] H → va_D A [oX0 aC ex.1, ai cI (aC 4) 6 (ex.1 4), ai cI (aC 5) 6 (ex.1 5), ai cI (aC 6) 6 (ex.1 6), ai cI (aC 7) 6 (ex.1 7), ai cI (aC 8) 64 (ex.1 8)] → va_S A s.heap H locs → lv_has ls 3 [(0, .ref (aC 0)), (1, .int ex.2)] → W p l e rm_X0_addRow s m args below meth c H locs 0 0 Q (F0 m 33 ls [])) → ∀ (n : Nat) (vC : Ob) (x1 : Int32) (x2 : Int32), m_X0_addRow_L2  n vC x1 x2 = some out → ∀ (H : Heap) (locs : List Loc) (ls : Array Slot), va_P G vwCl [oX0 aC vC, ai cI (aC 4) 6 (vC 4), ai cI (aC 5) 6 (vC 5), ai cI (aC 6) 6 (vC 6), ai cI (aC 7) 6 (vC 7), ai cI (aC 8) 64 (vC 8)] H → va_D A [oX0 aC vC, ai cI (aC 4) 6 (vC 4), ai cI (aC 5) 6 (vC 5), ai cI (aC 6) 6 (vC 6), ai cI (aC 7) 6 (vC 7), ai cI (aC 8) 64 (vC 8)] → va_S A s.heap H locs → lv_has ls 3 [(0, .ref (aC 0)), (1, .int x1), (2, .int x2)] → W p l e rm_X0_addRow s m args below meth c H locs 0 0 Q (F0 m 2 ls []) := by
    intro out hKr hKx
    intro n
    induction n with
    | zero => intro vC x1 x2 h; exact nomatch (show (none : Option ((Ob) ⊕ (Ob × Int32))) = some out from h)
    | succ n hrc =>
      intro vC x1 x2 h H locs ls hP hD hS hl
      have h : m_X0_addRow_L2B  (m_X0_addRow_L2  n) vC x1 x2 = some out := h
      generalize m_X0_addRow_L2  n = rc at h hrc
      unfold m_X0_addRow_L2B at h
      refine lv_iload_n hx hb dX0_addRow_2 rfl (lv_at hl 2 rfl) ?_
      refine lv_aload_n hx hb dX0_addRow_3 rfl (lv_at hl 0 rfl) ?_
      refine va_get (D := G) (ci := 0) (v := .int (vC 0 2)) (C := RX0) (T := TX0) (N := 8) hx hb hts fi_X0_addRow_X0 hown hEN.1 hP 0 rfl rfl 2 (by decide) (hts (.fieldLink RX0 38 "HourWell$Cups" "rowCount" "I") (List.mem_of_getElem? (i := 1) rfl)) (fun _ h9 => h9) rfl dX0_addRow_4 ?_
      refine lv_icmp_ge (tgt := 33) hx hb dX0_addRow_7 (by decide) (fun c7 => ?_) (fun c7 => ?_)
      · have h := (if_pos c7).symm.trans h
        exact hKx _ (Option.some.inj h).symm _ _ _ hP hD hS (lv_sub hl [0, 1] rfl)
      · have h := (if_neg c7).symm.trans h
        refine lv_iload_n hx hb dX0_addRow_10 rfl (lv_at hl 2 rfl) ?_
        refine lv_bipush (v := (64 : Int32)) hx hb dX0_addRow_11 k_bipush_64 ?_
        refine lv_icmp_ge (tgt := 33) hx hb dX0_addRow_13 (by decide) (fun c13 => ?_) (fun c13 => ?_)
        · have h := (if_pos c13).symm.trans h
          exact hKx _ (Option.some.inj h).symm _ _ _ hP hD hS (lv_sub hl [0, 1] rfl)
        · have h := (if_neg c13).symm.trans h
          refine lv_aload_n hx hb dX0_addRow_16 rfl (lv_at hl 0 rfl) ?_
          refine va_get (D := G) (ci := 0) (v := .ref (aC 8)) (C := RX0) (T := TX0) (N := 8) hx hb hts fi_X0_addRow_X0 hown hEN.1 hP 0 rfl rfl 7 (by decide) (hts (.fieldLink RX0 24 "HourWell$Cups" "rows" "[I") (List.mem_of_getElem? (i := 2) rfl)) (fun _ h9 => h9) rfl dX0_addRow_17 ?_
          refine lv_iload_n hx hb dX0_addRow_20 rfl (lv_at hl 2 rfl) ?_
          obtain ⟨hg21, h⟩ := grd_some h
          refine va_iald (f := (vC 8)) hx hb hEN.1 hP 5 0 rfl rfl (inb_in hg21) dX0_addRow_21 ?_
          refine lv_iload_n hx hb dX0_addRow_22 rfl (lv_at hl 1 rfl) ?_
          refine lv_icmp_ne (tgt := 27) hx hb dX0_addRow_23 (by decide) (fun c23 => ?_) (fun c23 => ?_)
          · have h := (if_neg c23).symm.trans h
            refine lv_iinc (v := (x2 + (1 : Int32))) (lv' := [(2, .int (x2 + (1 : Int32))), (0, .ref (aC 0)), (1, .int x1)]) hx hb dX0_addRow_27 hl (k := 2) rfl (congrArg (fun z => x2 + z) k_iconst_1) (by decide) rfl (fun ls hl => ?_)
            refine lv_goto (tgt := 2) hx hb dX0_addRow_30 (by decide) ?_
            exact hrc vC x1 (x2 + (1 : Int32)) h _ _ _ hP hD hS (lv_sub hl [1, 2, 0] rfl)
          · have h := (if_pos c23).symm.trans h
            have hres := hKr _ (Option.some.inj h).symm
            subst hres
            exact hRet 26 _ _ _ hP hD hS dX0_addRow_26
  unfold m_X0_addRow at h
  refine lv_iconst (v := (0 : Int32)) hx hb dX0_addRow_0 k_iconst_0 ?_
  refine lv_istore_n (lv' := [(2, .int (0 : Int32)), (0, .ref (aC 0)), (1, .int x1)]) hx hb dX0_addRow_1 rfl hl (by decide) rfl (fun ls hl => ?_)
  obtain ⟨o2_1, ho2_1, h⟩ := bnd_some h
  refine L2 o2_1 (fun r er => ?_) (fun o2_1x er H locs ls hP hD hS hl => ?_) FU vC x1 (0 : Int32) ho2_1 _ _ _ hP hD hS (lv_sub hl [1, 2, 0] rfl)
  · subst er
    have h := (sm_l _ _ _).symm.trans h
    exact Option.some.inj h
  · subst er
    have h := (sm_r _ _ _).symm.trans h
    refine lv_aload_n hx hb dX0_addRow_33 rfl (lv_at hl 0 rfl) ?_
    refine va_get (D := G) (ci := 0) (v := .int (o2_1x.1 0 2)) (C := RX0) (T := TX0) (N := 8) hx hb hts fi_X0_addRow_X0 hown hEN.1 hP 0 rfl rfl 2 (by decide) (hts (.fieldLink RX0 38 "HourWell$Cups" "rowCount" "I") (List.mem_of_getElem? (i := 1) rfl)) (fun _ h9 => h9) rfl dX0_addRow_34 ?_
    refine lv_iconst (v := (0 : Int32)) hx hb dX0_addRow_37 k_iconst_0 ?_
    refine lv_bipush (v := (63 : Int32)) hx hb dX0_addRow_38 k_bipush_63 ?_
    obtain ⟨o40, ho40, h⟩ := bnd_some h
    refine call_SN0 (As := [.int (o2_1x.1 0 2), .int (0 : Int32), .int (63 : Int32)]) (rest := []) ⟨hx, hb, hml, hown, hts⟩ (c_X5_isWithin l G cI cZ  (o2_1x.1 0 2) (0 : Int32) (63 : Int32) o40 ho40) ⟨va_cnB 3 hts gX0_addRow_X5_isWithin_n34 rfl rfl rfl (hEN.2.1 _ (List.mem_of_getElem? (i := 3) rfl)) (hts (.initialized RX5) (List.mem_of_getElem? (i := 4) rfl)) hdS_X5_isWithin ⟨Nat.le_of_ble_eq_true rfl, Nat.le_of_ble_eq_true rfl⟩, hts (.static yX5_isWithin) (List.mem_of_getElem? (i := 3) rfl), trivial⟩ hEN hA hP hD hS [] rfl (by decide) rfl hl.1 rfl (Nat.le_of_ble_eq_true rfl) dX0_addRow_40 ⟨Nat.le_of_ble_eq_true rfl, Nat.le_of_ble_eq_true rfl⟩ (fun H locs hP hS => ?_)
    refine lv_if_ne (tgt := 47) hx hb dX0_addRow_43 (by decide) (fun c43 => ?_) (fun c43 => ?_)
    · have h := (if_neg c43).symm.trans h
      refine lv_aload_n hx hb dX0_addRow_47 rfl (lv_at hl 0 rfl) ?_
      refine va_get (D := G) (ci := 0) (v := .ref (aC 8)) (C := RX0) (T := TX0) (N := 8) hx hb hts fi_X0_addRow_X0 hown hEN.1 hP 0 rfl rfl 7 (by decide) (hts (.fieldLink RX0 24 "HourWell$Cups" "rows" "[I") (List.mem_of_getElem? (i := 2) rfl)) (fun _ h9 => h9) rfl dX0_addRow_48 ?_
      refine lv_aload_n hx hb dX0_addRow_51 rfl (lv_at hl 0 rfl) ?_
      refine va_get (D := G) (ci := 0) (v := .int (o2_1x.1 0 2)) (C := RX0) (T := TX0) (N := 8) hx hb hts fi_X0_addRow_X0 hown hEN.1 hP 0 rfl rfl 2 (by decide) (hts (.fieldLink RX0 38 "HourWell$Cups" "rowCount" "I") (List.mem_of_getElem? (i := 1) rfl)) (fun _ h9 => h9) rfl dX0_addRow_52 ?_
      refine lv_iload_n hx hb dX0_addRow_55 rfl (lv_at hl 1 rfl) ?_
      obtain ⟨hg56, h⟩ := grd_some h
      refine va_iast (f := (o2_1x.1 8)) hx hb hEN.1 hP hD hS 5 0 rfl rfl (inb_in hg56) dX0_addRow_56 (fun H locs hP hD hS => ?_)
      have hP : va_P G vwCl [oX0 aC o2_1x.1, ai cI (aC 4) 6 (o2_1x.1 4), ai cI (aC 5) 6 (o2_1x.1 5), ai cI (aC 6) 6 (o2_1x.1 6), ai cI (aC 7) 6 (o2_1x.1 7), ai cI (aC 8) 64 (upd (o2_1x.1 8) (Int32.toNatClampNeg (o2_1x.1 0 2)) o2_1x.2)] H := hP
      have hD : va_D A [oX0 aC o2_1x.1, ai cI (aC 4) 6 (o2_1x.1 4), ai cI (aC 5) 6 (o2_1x.1 5), ai cI (aC 6) 6 (o2_1x.1 6), ai cI (aC 7) 6 (o2_1x.1 7), ai cI (aC 8) 64 (upd (o2_1x.1 8) (Int32.toNatClampNeg (o2_1x.1 0 2)) o2_1x.2)] := hD
      refine lv_aload_n hx hb dX0_addRow_57 rfl (lv_at hl 0 rfl) ?_
      refine lv_dup hx hb dX0_addRow_58 rfl ?_
      refine va_get (D := G) (ci := 0) (v := .int (o2_1x.1 0 2)) (C := RX0) (T := TX0) (N := 8) hx hb hts fi_X0_addRow_X0 hown hEN.1 hP 0 rfl rfl 2 (by decide) (hts (.fieldLink RX0 38 "HourWell$Cups" "rowCount" "I") (List.mem_of_getElem? (i := 1) rfl)) (fun _ h9 => h9) rfl dX0_addRow_59 ?_
      refine lv_iconst (v := (1 : Int32)) hx hb dX0_addRow_62 k_iconst_1 ?_
      refine lv_iadd hx hb dX0_addRow_63 ?_
      refine va_put (D := G) (ci := 0) (v := .int ((o2_1x.1 0 2) + (1 : Int32))) (ty := .int) (C := RX0) (T := TX0) (N := 8) hx hb hts fi_X0_addRow_X0 tyX0 tyX0_ok nmX0 hown hEN.1 hP hD hS 0 rfl rfl 2 (by decide) (hts (.fieldLink RX0 38 "HourWell$Cups" "rowCount" "I") (List.mem_of_getElem? (i := 1) rfl)) (fun _ h9 => h9) rfl (by decide +kernel) rfl rfl (Nat.le_of_ble_eq_true rfl) dX0_addRow_64 (fun H locs hP hD hS => ?_)
      have hP : va_P G vwCl [oX0 aC (st o2_1x.1 0 2 ((o2_1x.1 0 2) + (1 : Int32))), ai cI (aC 4) 6 (o2_1x.1 4), ai cI (aC 5) 6 (o2_1x.1 5), ai cI (aC 6) 6 (o2_1x.1 6), ai cI (aC 7) 6 (o2_1x.1 7), ai cI (aC 8) 64 (upd (o2_1x.1 8) (Int32.toNatClampNeg (o2_1x.1 0 2)) o2_1x.2)] H := hP
      have hD : va_D A [oX0 aC (st o2_1x.1 0 2 ((o2_1x.1 0 2) + (1 : Int32))), ai cI (aC 4) 6 (o2_1x.1 4), ai cI (aC 5) 6 (o2_1x.1 5), ai cI (aC 6) 6 (o2_1x.1 6), ai cI (aC 7) 6 (o2_1x.1 7), ai cI (aC 8) 64 (upd (o2_1x.1 8) (Int32.toNatClampNeg (o2_1x.1 0 2)) o2_1x.2)] := hD
      have hres := Option.some.inj h
      subst hres
      exact hRet 67 _ _ _ hP hD hS dX0_addRow_67
    · have h := (if_pos c43).symm.trans h
      have hres := Option.some.inj h
      subst hres
      exact hRet 46 _ _ _ hP hD hS dX0_addRow_46
abbrev rm_X0_cupOn : Room := { frames := 0, cells := 0, slots := 0, locals := 0 }
theorem hdS_X0_cupOn : yX0_cupOn.cls ≠ "java/lang/invoke/MethodHandle" ∧ yX0_cupOn.cls ≠ "java/lang/invoke/VarHandle" ∧ (parseMethodDescriptor yX0_cupOn.desc).map (fun d => d.parameters.length) = some 2 := by decide +kernel
set_option maxRecDepth 100000 in
set_option maxHeartbeats 4000000 in
theorem c_X0_cupOn (l : Launch) (G : va_G) (cI cZ : ClassId)   (x0 : Int32) (x1 : Int32) (res : Int32) (h : m_X0_cupOn  x0 x1 = some res) : Ct l yX0_cupOn wsX0_cupOn rm_X0_cupOn G cI cZ [.int x0, .int x1] [] (some (.int res)) [] := by
  refine Ct.of_i (maxL := 2) (by decide) rfl (Nat.le_of_ble_eq_true rfl) ?_
  intro p e s m below meth c args hx hb hml hown hts A hA hEN hP hD hS Q hRet ls hl
  have hown : s.vm.findClass RX0 = some m.cls := hown
  have hl : lv_has ls 2 [(0, .int x0), (1, .int x1)] := hl
  unfold m_X0_cupOn at h
  refine lv_iload_n hx hb dX0_cupOn_0 rfl (lv_at hl 0 rfl) ?_
  refine lv_iconst (v := (3 : Int32)) hx hb dX0_cupOn_1 k_iconst_3 ?_
  refine lv_iload_n hx hb dX0_cupOn_2 rfl (lv_at hl 1 rfl) ?_
  refine lv_imul hx hb dX0_cupOn_3 ?_
  refine lv_ishr hx hb dX0_cupOn_4 ?_
  refine lv_bipush (v := (7 : Int32)) hx hb dX0_cupOn_5 k_bipush_7 ?_
  refine lv_iand hx hb dX0_cupOn_7 ?_
  have hres := Option.some.inj h
  subst hres
  exact hRet 8 _ _ _ hP hD hS dX0_cupOn_8
abbrev rm_X0_addSwappedRows : Room := { frames := 2, cells := 0, slots := 0, locals := 44 }
theorem fi_X0_addSwappedRows_X0 : ∀ w ∈ wsX00, w ∈ wsX0_addSwappedRows := fun _ h => List.mem_cons_of_mem _ (List.mem_append_right _ h)
theorem hdV_X0_addSwappedRows : yX0_addSwappedRows.cls = RX0 ∧ yX0_addSwappedRows.cls ≠ "java/lang/invoke/MethodHandle" ∧ yX0_addSwappedRows.cls ≠ "java/lang/invoke/VarHandle" ∧ (parseMethodDescriptor yX0_addSwappedRows.desc).map (fun d => d.parameters.length) = some 2 := by decide +kernel
set_option maxRecDepth 100000 in
set_option maxHeartbeats 4000000 in
theorem c_X0_addSwappedRows (l : Launch) (G : va_G) (cI cZ : ClassId) (aC : Nat → Nat) (vC : Ob) (x1 : Int32) (x2 : Int32) (res : Ob) (h : m_X0_addSwappedRows vC x1 x2 = some res) : Ct l yX0_addSwappedRows wsX0_addSwappedRows rm_X0_addSwappedRows G cI cZ [.ref (aC 0), .int x1, .int x2] [oX0 aC vC, ai cI (aC 4) 6 (vC 4), ai cI (aC 5) 6 (vC 5), ai cI (aC 6) 6 (vC 6), ai cI (aC 7) 6 (vC 7), ai cI (aC 8) 64 (vC 8)] none [oX0 aC res, ai cI (aC 4) 6 (res 4), ai cI (aC 5) 6 (res 5), ai cI (aC 6) 6 (res 6), ai cI (aC 7) 6 (res 7), ai cI (aC 8) 64 (res 8)] := by
  refine Ct.of_v (maxL := 6) (by decide) rfl (Nat.le_of_ble_eq_true rfl) ?_
  intro p e s m below meth c args hx hb hml hown hts A hA hEN hP hD hS Q hRet ls hl
  have hown : s.vm.findClass RX0 = some m.cls := hown
  have hl : lv_has ls 6 [(0, .ref (aC 0)), (1, .int x1), (2, .int x2)] := hl
  have L13 : ∀ (out : Ob), (∀ ex : Ob, out = ex → ∀ (H : Heap) (locs : List Loc) (ls : Array Slot), va_P G vwCl [oX0 aC ex, ai cI (aC 4) 6 (ex 4), ai cI (aC 5) 6 (ex 5), ai cI (aC 6) 6 (ex 6), ai cI (aC 7) 6 (ex 7), ai cI (aC 8) 64 (ex 8)] H → va_D A [oX0 aC ex, ai cI (aC 4) 6 (ex 4), ai cI (aC 5) 6 (ex 5), ai cI (aC 6) 6 (ex 6), ai cI (aC 7) 6 (ex 7), ai cI (aC 8) 64 (ex 8)] → va_S A s.heap H locs → lv_has ls 6 [] → W p l e rm_X0_addSwappedRows s m args below meth c H locs 0 0 Q (F0 m 75 ls [])) → ∀ (n : Nat) (vC : Ob) (x1 : Int32) (x2 : Int32) (x3 : Int32) (x4 : Int32), m_X0_addSwappedRows_L13  n vC x1 x2 x3 x4 = some out → ∀ (H : Heap) (locs : List Loc) (ls : Array Slot), va_P G vwCl [oX0 aC vC, ai cI (aC 4) 6 (vC 4), ai cI (aC 5) 6 (vC 5), ai cI (aC 6) 6 (vC 6), ai cI (aC 7) 6 (vC 7), ai cI (aC 8) 64 (vC 8)] H → va_D A [oX0 aC vC, ai cI (aC 4) 6 (vC 4), ai cI (aC 5) 6 (vC 5), ai cI (aC 6) 6 (vC 6), ai cI (aC 7) 6 (vC 7), ai cI (aC 8) 64 (vC 8)] → va_S A s.heap H locs → lv_has ls 6 [(0, .ref (aC 0)), (1, .int x1), (2, .int x2), (3, .int x3), (4, .int x4)] → W p l e rm_X0_addSwappedRows s m args below meth c H locs 0 0 Q (F0 m 13 ls []) := by
    intro out hKx
    intro n
    induction n with
    | zero => intro vC x1 x2 x3 x4 h; exact nomatch (show (none : Option (Ob)) = some out from h)
    | succ n hrc =>
      intro vC x1 x2 x3 x4 h H locs ls hP hD hS hl
      have h : m_X0_addSwappedRows_L13B  (m_X0_addSwappedRows_L13  n) vC x1 x2 x3 x4 = some out := h
      generalize m_X0_addSwappedRows_L13  n = rc at h hrc
      unfold m_X0_addSwappedRows_L13B at h
      refine lv_iload hx hb dX0_addSwappedRows_13 (lv_at hl 4 rfl) ?_
      refine lv_iload_n hx hb dX0_addSwappedRows_15 rfl (lv_at hl 3 rfl) ?_
      refine lv_icmp_ge (tgt := 75) hx hb dX0_addSwappedRows_16 (by decide) (fun c16 => ?_) (fun c16 => ?_)
      · have h := (if_pos c16).symm.trans h
        exact hKx _ (Option.some.inj h).symm _ _ _ hP hD hS (lv_sub hl [] rfl)
      · have h := (if_neg c16).symm.trans h
        refine lv_aload_n hx hb dX0_addSwappedRows_19 rfl (lv_at hl 0 rfl) ?_
        refine va_get (D := G) (ci := 0) (v := .ref (aC 8)) (C := RX0) (T := TX0) (N := 8) hx hb hts fi_X0_addSwappedRows_X0 hown hEN.1 hP 0 rfl rfl 7 (by decide) (hts (.fieldLink RX0 24 "HourWell$Cups" "rows" "[I") (List.mem_of_getElem? (i := 6) rfl)) (fun _ h9 => h9) rfl dX0_addSwappedRows_20 ?_
        refine lv_iload hx hb dX0_addSwappedRows_23 (lv_at hl 4 rfl) ?_
        obtain ⟨hg25, h⟩ := grd_some h
        refine va_iald (f := (vC 8)) hx hb hEN.1 hP 5 0 rfl rfl (inb_in hg25) dX0_addSwappedRows_25 ?_
        refine lv_iload_n hx hb dX0_addSwappedRows_26 rfl (lv_at hl 1 rfl) ?_
        obtain ⟨o27, ho27, h⟩ := bnd_some h
        refine call_S0 (As := [.int ((vC 8) (Int32.toNatClampNeg x4)), .int x1]) (rest := []) ⟨hx, hb, hml, hown, hts⟩ (c_X0_cupOn l G cI cZ  ((vC 8) (Int32.toNatClampNeg x4)) x1 o27 ho27) (va_cwS 2 hts gX0_addSwappedRows_X0_cupOn rfl rfl rfl hdS_X0_cupOn ⟨Nat.le_of_ble_eq_true rfl, Nat.le_of_ble_eq_true rfl⟩) hEN hA hP hD hS [] rfl (by decide) rfl hl.1 rfl (Nat.le_of_ble_eq_true rfl) dX0_addSwappedRows_27 ⟨Nat.le_of_ble_eq_true rfl, Nat.le_of_ble_eq_true rfl⟩ (fun H locs hP hS => ?_)
        refine lv_aload_n hx hb dX0_addSwappedRows_30 rfl (lv_at hl 0 rfl) ?_
        refine va_get (D := G) (ci := 0) (v := .ref (aC 8)) (C := RX0) (T := TX0) (N := 8) hx hb hts fi_X0_addSwappedRows_X0 hown hEN.1 hP 0 rfl rfl 7 (by decide) (hts (.fieldLink RX0 24 "HourWell$Cups" "rows" "[I") (List.mem_of_getElem? (i := 6) rfl)) (fun _ h9 => h9) rfl dX0_addSwappedRows_31 ?_
        refine lv_iload hx hb dX0_addSwappedRows_34 (lv_at hl 4 rfl) ?_
        obtain ⟨hg36, h⟩ := grd_some h
        refine va_iald (f := (vC 8)) hx hb hEN.1 hP 5 0 rfl rfl (inb_in hg36) dX0_addSwappedRows_36 ?_
        refine lv_iload_n hx hb dX0_addSwappedRows_37 rfl (lv_at hl 2 rfl) ?_
        obtain ⟨o38, ho38, h⟩ := bnd_some h
        refine call_S0 (As := [.int ((vC 8) (Int32.toNatClampNeg x4)), .int x2]) (rest := [.int o27]) ⟨hx, hb, hml, hown, hts⟩ (c_X0_cupOn l G cI cZ  ((vC 8) (Int32.toNatClampNeg x4)) x2 o38 ho38) (va_cwS 2 hts gX0_addSwappedRows_X0_cupOn rfl rfl rfl hdS_X0_cupOn ⟨Nat.le_of_ble_eq_true rfl, Nat.le_of_ble_eq_true rfl⟩) hEN hA hP hD hS [] rfl (by decide) rfl hl.1 rfl (Nat.le_of_ble_eq_true rfl) dX0_addSwappedRows_38 ⟨Nat.le_of_ble_eq_true rfl, Nat.le_of_ble_eq_true rfl⟩ (fun H locs hP hS => ?_)
        refine lv_ixor hx hb dX0_addSwappedRows_41 ?_
        refine lv_istore (lv' := [(5, .int (o27 ^^^ o38)), (0, .ref (aC 0)), (1, .int x1), (2, .int x2), (3, .int x3), (4, .int x4)]) hx hb dX0_addSwappedRows_42 hl (by decide) rfl (fun ls hl => ?_)
        refine lv_aload_n hx hb dX0_addSwappedRows_44 rfl (lv_at hl 1 rfl) ?_
        refine lv_aload_n hx hb dX0_addSwappedRows_45 rfl (lv_at hl 1 rfl) ?_
        refine va_get (D := G) (ci := 0) (v := .ref (aC 8)) (C := RX0) (T := TX0) (N := 8) hx hb hts fi_X0_addSwappedRows_X0 hown hEN.1 hP 0 rfl rfl 7 (by decide) (hts (.fieldLink RX0 24 "HourWell$Cups" "rows" "[I") (List.mem_of_getElem? (i := 6) rfl)) (fun _ h9 => h9) rfl dX0_addSwappedRows_46 ?_
        refine lv_iload hx hb dX0_addSwappedRows_49 (lv_at hl 5 rfl) ?_
        obtain ⟨hg51, h⟩ := grd_some h
        refine va_iald (f := (vC 8)) hx hb hEN.1 hP 5 0 rfl rfl (inb_in hg51) dX0_addSwappedRows_51 ?_
        refine lv_iload hx hb dX0_addSwappedRows_52 (lv_at hl 0 rfl) ?_
        refine lv_iconst (v := (3 : Int32)) hx hb dX0_addSwappedRows_54 k_iconst_3 ?_
        refine lv_iload_n hx hb dX0_addSwappedRows_55 rfl (lv_at hl 2 rfl) ?_
        refine lv_imul hx hb dX0_addSwappedRows_56 ?_
        refine lv_ishl hx hb dX0_addSwappedRows_57 ?_
        refine lv_ixor hx hb dX0_addSwappedRows_58 ?_
        refine lv_iload hx hb dX0_addSwappedRows_59 (lv_at hl 0 rfl) ?_
        refine lv_iconst (v := (3 : Int32)) hx hb dX0_addSwappedRows_61 k_iconst_3 ?_
        refine lv_iload_n hx hb dX0_addSwappedRows_62 rfl (lv_at hl 3 rfl) ?_
        refine lv_imul hx hb dX0_addSwappedRows_63 ?_
        refine lv_ishl hx hb dX0_addSwappedRows_64 ?_
        refine lv_ixor hx hb dX0_addSwappedRows_65 ?_
        obtain ⟨o66, ho66, h⟩ := bnd_some h
        refine call_VJ (wr := []) (As := [.int ((((vC 8) (Int32.toNatClampNeg x4)) ^^^ ((o27 ^^^ o38) <<< (((3 : Int32) * x1) &&& 31))) ^^^ ((o27 ^^^ o38) <<< (((3 : Int32) * x2) &&& 31)))]) (rest := []) ⟨hx, hb, hml, hown, hts⟩ (c_X0_addRow l G cI cZ aC vC ((((vC 8) (Int32.toNatClampNeg x4)) ^^^ ((o27 ^^^ o38) <<< (((3 : Int32) * x1) &&& 31))) ^^^ ((o27 ^^^ o38) <<< (((3 : Int32) * x2) &&& 31))) o66 ho66) (cwV 1 hts gX0_addSwappedRows_X0_addRow rfl rfl rfl hdV_X0_addRow ⟨Nat.le_of_ble_eq_true rfl, Nat.le_of_ble_eq_true rfl⟩) hEN hA hP hD hS [0, 1, 2, 3, 4, 5] [] rfl (by decide) rfl (by decide) (by decide) 0 rfl rfl rfl hl.1 rfl (Nat.le_of_ble_eq_true rfl) dX0_addSwappedRows_66 ⟨Nat.le_of_ble_eq_true rfl, Nat.le_of_ble_eq_true rfl⟩ (fun H locs hP hD hS => ?_)
        have hP : va_P G vwCl [oX0 aC o66, ai cI (aC 4) 6 (o66 4), ai cI (aC 5) 6 (o66 5), ai cI (aC 6) 6 (o66 6), ai cI (aC 7) 6 (o66 7), ai cI (aC 8) 64 (o66 8)] H := hP
        have hD : va_D A [oX0 aC o66, ai cI (aC 4) 6 (o66 4), ai cI (aC 5) 6 (o66 5), ai cI (aC 6) 6 (o66 6), ai cI (aC 7) 6 (o66 7), ai cI (aC 8) 64 (o66 8)] := hD
        refine lv_iinc (v := (x4 + (1 : Int32))) (lv' := [(4, .int (x4 + (1 : Int32))), (5, .int (o27 ^^^ o38)), (0, .ref (aC 0)), (1, .int x1), (2, .int x2), (3, .int x3)]) hx hb dX0_addSwappedRows_69 hl (k := 5) rfl (congrArg (fun z => x4 + z) k_iconst_1) (by decide) rfl (fun ls hl => ?_)
        refine lv_goto (tgt := 13) hx hb dX0_addSwappedRows_72 (by decide) ?_
        exact hrc o66 x1 x2 x3 (x4 + (1 : Int32)) h _ _ _ hP hD hS (lv_sub hl [2, 3, 4, 5, 0] rfl)
  unfold m_X0_addSwappedRows at h
  refine lv_aload_n hx hb dX0_addSwappedRows_0 rfl (lv_at hl 0 rfl) ?_
  refine va_get (D := G) (ci := 0) (v := .int (vC 0 2)) (C := RX0) (T := TX0) (N := 8) hx hb hts fi_X0_addSwappedRows_X0 hown hEN.1 hP 0 rfl rfl 2 (by decide) (hts (.fieldLink RX0 38 "HourWell$Cups" "rowCount" "I") (List.mem_of_getElem? (i := 1) rfl)) (fun _ h9 => h9) rfl dX0_addSwappedRows_1 ?_
  refine lv_bipush (v := (64 : Int32)) hx hb dX0_addSwappedRows_4 k_bipush_64 ?_
  refine va_mmin hx hb (hml.trans hl.1.symm) hown (hts (.methodLink RX0 56 Lib.Math.min.name) (List.mem_of_getElem? (i := 2) rfl)) (hts (.static Lib.Math.min.name) (List.mem_of_getElem? (i := 3) rfl)) (hts (.initialized "java/lang/Math") (List.mem_of_getElem? (i := 4) rfl)) (hts (.code Lib.Math.min.name Lib.Math.min.code 2 (some .int)) (List.mem_of_getElem? (i := 5) rfl)) (Nat.le_of_ble_eq_true rfl) (Nat.le_of_ble_eq_true rfl) (Nat.le_of_ble_eq_true rfl) (Nat.le_of_ble_eq_true rfl) dX0_addSwappedRows_6 ?_
  refine lv_istore_n (lv' := [(3, .int (if (64 : Int32) < (vC 0 2) then (64 : Int32) else (vC 0 2))), (0, .ref (aC 0)), (1, .int x1), (2, .int x2)]) hx hb dX0_addSwappedRows_9 rfl hl (by decide) rfl (fun ls hl => ?_)
  refine lv_iconst (v := (0 : Int32)) hx hb dX0_addSwappedRows_10 k_iconst_0 ?_
  refine lv_istore (lv' := [(4, .int (0 : Int32)), (3, .int (if (64 : Int32) < (vC 0 2) then (64 : Int32) else (vC 0 2))), (0, .ref (aC 0)), (1, .int x1), (2, .int x2)]) hx hb dX0_addSwappedRows_11 hl (by decide) rfl (fun ls hl => ?_)
  obtain ⟨o13_1, ho13_1, h⟩ := bnd_some h
  refine L13 o13_1 (fun o13_1e er H locs ls hP hD hS hl => ?_) FU vC x1 x2 (if (64 : Int32) < (vC 0 2) then (64 : Int32) else (vC 0 2)) (0 : Int32) ho13_1 _ _ _ hP hD hS (lv_sub hl [2, 3, 4, 1, 0] rfl)
  subst er
  have hres := Option.some.inj h
  subst hres
  exact hRet 75 _ _ _ hP hD hS dX0_addSwappedRows_75
abbrev rm_X0_isAsTasted : Room := { frames := 1, cells := 0, slots := 0, locals := 21 }
theorem fi_X0_isAsTasted_X0 : ∀ w ∈ wsX00, w ∈ wsX0_isAsTasted := fun _ h => List.mem_cons_of_mem _ (List.mem_append_right _ h)
theorem hdV_X0_isAsTasted : yX0_isAsTasted.cls = RX0 ∧ yX0_isAsTasted.cls ≠ "java/lang/invoke/MethodHandle" ∧ yX0_isAsTasted.cls ≠ "java/lang/invoke/VarHandle" ∧ (parseMethodDescriptor yX0_isAsTasted.desc).map (fun d => d.parameters.length) = some 2 := by decide +kernel
set_option maxRecDepth 100000 in
set_option maxHeartbeats 4000000 in
theorem c_X0_isAsTasted (l : Launch) (G : va_G) (cI cZ : ClassId) (aC : Nat → Nat) (vC : Ob) (x1 : Int32) (x2 : Int32) (res : Int32) (h : m_X0_isAsTasted vC x1 x2 = some res) : Ct l yX0_isAsTasted wsX0_isAsTasted rm_X0_isAsTasted G cI cZ [.ref (aC 0), .int x1, .int x2] [oX0 aC vC, ai cI (aC 6) 6 (vC 6), ai cI (aC 7) 6 (vC 7)] (some (.int res)) [oX0 aC vC, ai cI (aC 6) 6 (vC 6), ai cI (aC 7) 6 (vC 7)] := by
  refine Ct.of_z (maxL := 4) (by decide) rfl (Nat.le_of_ble_eq_true rfl) ?_
  intro p e s m below meth c args hx hb hml hown hts A hA hEN hP hD hS Q hRet ls hl
  have hown : s.vm.findClass RX0 = some m.cls := hown
  have hl : lv_has ls 4 [(0, .ref (aC 0)), (1, .int x1), (2, .int x2)] := hl
  have L2 : ∀ (out : (Int32) ⊕ (Unit)), (∀ r : Int32, out = Sum.inl r → r = res) → (∀ ex : Unit, out = Sum.inr ex → ∀ (H : Heap) (locs : List Loc) (ls : Array Slot), va_P G vwCl [oX0 aC vC, ai cI (aC 6) 6 (vC 6), ai cI (aC 7) 6 (vC 7)] H → va_D A [oX0 aC vC, ai cI (aC 6) 6 (vC 6), ai cI (aC 7) 6 (vC 7)] → va_S A s.heap H locs → lv_has ls 4 [] → W p l e rm_X0_isAsTasted s m args below meth c H locs 0 0 Q (F0 m 53 ls [])) → ∀ (n : Nat) (x1 : Int32) (x2 : Int32) (x3 : Int32), m_X0_isAsTasted_L2 vC n x1 x2 x3 = some out → ∀ (H : Heap) (locs : List Loc) (ls : Array Slot), va_P G vwCl [oX0 aC vC, ai cI (aC 6) 6 (vC 6), ai cI (aC 7) 6 (vC 7)] H → va_D A [oX0 aC vC, ai cI (aC 6) 6 (vC 6), ai cI (aC 7) 6 (vC 7)] → va_S A s.heap H locs → lv_has ls 4 [(0, .ref (aC 0)), (1, .int x1), (2, .int x2), (3, .int x3)] → W p l e rm_X0_isAsTasted s m args below meth c H locs 0 0 Q (F0 m 2 ls []) := by
    intro out hKr hKx
    intro n
    induction n with
    | zero => intro x1 x2 x3 h; exact nomatch (show (none : Option ((Int32) ⊕ (Unit))) = some out from h)
    | succ n hrc =>
      intro x1 x2 x3 h H locs ls hP hD hS hl
      have h : m_X0_isAsTasted_L2B vC (m_X0_isAsTasted_L2 vC n) x1 x2 x3 = some out := h
      generalize m_X0_isAsTasted_L2 vC n = rc at h hrc
      unfold m_X0_isAsTasted_L2B at h
      refine lv_iload_n hx hb dX0_isAsTasted_2 rfl (lv_at hl 3 rfl) ?_
      refine lv_aload_n hx hb dX0_isAsTasted_3 rfl (lv_at hl 0 rfl) ?_
      refine va_get (D := G) (ci := 0) (v := .int (vC 0 1)) (C := RX0) (T := TX0) (N := 8) hx hb hts fi_X0_isAsTasted_X0 hown hEN.1 hP 0 rfl rfl 1 (by decide) (hts (.fieldLink RX0 31 "HourWell$Cups" "tasted" "I") (List.mem_of_getElem? (i := 1) rfl)) (fun _ h9 => h9) rfl dX0_isAsTasted_4 ?_
      refine lv_icmp_ge (tgt := 53) hx hb dX0_isAsTasted_7 (by decide) (fun c7 => ?_) (fun c7 => ?_)
      · have h := (if_pos c7).symm.trans h
        exact hKx _ (Option.some.inj h).symm _ _ _ hP hD hS (lv_sub hl [] rfl)
      · have h := (if_neg c7).symm.trans h
        refine lv_iload_n hx hb dX0_isAsTasted_10 rfl (lv_at hl 3 rfl) ?_
        refine lv_bipush (v := (6 : Int32)) hx hb dX0_isAsTasted_11 k_bipush_6 ?_
        refine lv_icmp_ge (tgt := 53) hx hb dX0_isAsTasted_13 (by decide) (fun c13 => ?_) (fun c13 => ?_)
        · have h := (if_pos c13).symm.trans h
          exact hKx _ (Option.some.inj h).symm _ _ _ hP hD hS (lv_sub hl [] rfl)
        · have h := (if_neg c13).symm.trans h
          refine lv_aload_n hx hb dX0_isAsTasted_16 rfl (lv_at hl 0 rfl) ?_
          refine va_get (D := G) (ci := 0) (v := .ref (aC 6)) (C := RX0) (T := TX0) (N := 8) hx hb hts fi_X0_isAsTasted_X0 hown hEN.1 hP 0 rfl rfl 5 (by decide) (hts (.fieldLink RX0 18 "HourWell$Cups" "tastedSeats" "[I") (List.mem_of_getElem? (i := 2) rfl)) (fun _ h9 => h9) rfl dX0_isAsTasted_17 ?_
          refine lv_iload_n hx hb dX0_isAsTasted_20 rfl (lv_at hl 3 rfl) ?_
          obtain ⟨hg21, h⟩ := grd_some h
          refine va_iald (f := (vC 6)) hx hb hEN.1 hP 1 0 rfl rfl (inb_in hg21) dX0_isAsTasted_21 ?_
          refine lv_iload_n hx hb dX0_isAsTasted_22 rfl (lv_at hl 2 rfl) ?_
          refine lv_icmp_ge (tgt := 45) hx hb dX0_isAsTasted_23 (by decide) (fun c23 => ?_) (fun c23 => ?_)
          · have h := (if_pos c23).symm.trans h
            refine lv_iconst (v := (0 : Int32)) hx hb dX0_isAsTasted_45 k_iconst_0 ?_
            have hres := hKr _ (Option.some.inj h).symm
            subst hres
            exact hRet 46 nz0 _ _ _ hP hD hS dX0_isAsTasted_46
          · have h := (if_neg c23).symm.trans h
            refine lv_iload_n hx hb dX0_isAsTasted_26 rfl (lv_at hl 1 rfl) ?_
            refine lv_aload_n hx hb dX0_isAsTasted_27 rfl (lv_at hl 0 rfl) ?_
            refine va_get (D := G) (ci := 0) (v := .ref (aC 6)) (C := RX0) (T := TX0) (N := 8) hx hb hts fi_X0_isAsTasted_X0 hown hEN.1 hP 0 rfl rfl 5 (by decide) (hts (.fieldLink RX0 18 "HourWell$Cups" "tastedSeats" "[I") (List.mem_of_getElem? (i := 2) rfl)) (fun _ h9 => h9) rfl dX0_isAsTasted_28 ?_
            refine lv_iload_n hx hb dX0_isAsTasted_31 rfl (lv_at hl 3 rfl) ?_
            obtain ⟨hg32, h⟩ := grd_some h
            refine va_iald (f := (vC 6)) hx hb hEN.1 hP 1 0 rfl rfl (inb_in hg32) dX0_isAsTasted_32 ?_
            obtain ⟨o33, ho33, h⟩ := bnd_some h
            refine call_S0 (As := [.int x1, .int ((vC 6) (Int32.toNatClampNeg x3))]) (rest := []) ⟨hx, hb, hml, hown, hts⟩ (c_X0_cupOn l G cI cZ  x1 ((vC 6) (Int32.toNatClampNeg x3)) o33 ho33) (va_cwS 2 hts gX0_isAsTasted_X0_cupOn rfl rfl rfl hdS_X0_cupOn ⟨Nat.le_of_ble_eq_true rfl, Nat.le_of_ble_eq_true rfl⟩) hEN hA hP hD hS [] rfl (by decide) rfl hl.1 rfl (Nat.le_of_ble_eq_true rfl) dX0_isAsTasted_33 ⟨Nat.le_of_ble_eq_true rfl, Nat.le_of_ble_eq_true rfl⟩ (fun H locs hP hS => ?_)
            refine lv_aload_n hx hb dX0_isAsTasted_36 rfl (lv_at hl 0 rfl) ?_
            refine va_get (D := G) (ci := 0) (v := .ref (aC 7)) (C := RX0) (T := TX0) (N := 8) hx hb hts fi_X0_isAsTasted_X0 hown hEN.1 hP 0 rfl rfl 6 (by decide) (hts (.fieldLink RX0 21 "HourWell$Cups" "tastedCups" "[I") (List.mem_of_getElem? (i := 3) rfl)) (fun _ h9 => h9) rfl dX0_isAsTasted_37 ?_
            refine lv_iload_n hx hb dX0_isAsTasted_40 rfl (lv_at hl 3 rfl) ?_
            obtain ⟨hg41, h⟩ := grd_some h
            refine va_iald (f := (vC 7)) hx hb hEN.1 hP 2 0 rfl rfl (inb_in hg41) dX0_isAsTasted_41 ?_
            refine lv_icmp_eq (tgt := 47) hx hb dX0_isAsTasted_42 (by decide) (fun c42 => ?_) (fun c42 => ?_)
            · have h := (if_pos c42).symm.trans h
              refine lv_iinc (v := (x3 + (1 : Int32))) (lv' := [(3, .int (x3 + (1 : Int32))), (0, .ref (aC 0)), (1, .int x1), (2, .int x2)]) hx hb dX0_isAsTasted_47 hl (k := 3) rfl (congrArg (fun z => x3 + z) k_iconst_1) (by decide) rfl (fun ls hl => ?_)
              refine lv_goto (tgt := 2) hx hb dX0_isAsTasted_50 (by decide) ?_
              exact hrc x1 x2 (x3 + (1 : Int32)) h _ _ _ hP hD hS (lv_sub hl [1, 2, 3, 0] rfl)
            · have h := (if_neg c42).symm.trans h
              refine lv_iconst (v := (0 : Int32)) hx hb dX0_isAsTasted_45 k_iconst_0 ?_
              have hres := hKr _ (Option.some.inj h).symm
              subst hres
              exact hRet 46 nz0 _ _ _ hP hD hS dX0_isAsTasted_46
  unfold m_X0_isAsTasted at h
  refine lv_iconst (v := (0 : Int32)) hx hb dX0_isAsTasted_0 k_iconst_0 ?_
  refine lv_istore_n (lv' := [(3, .int (0 : Int32)), (0, .ref (aC 0)), (1, .int x1), (2, .int x2)]) hx hb dX0_isAsTasted_1 rfl hl (by decide) rfl (fun ls hl => ?_)
  obtain ⟨o2_1, ho2_1, h⟩ := bnd_some h
  refine L2 o2_1 (fun r er => ?_) (fun o2_1x er H locs ls hP hD hS hl => ?_) FU x1 x2 (0 : Int32) ho2_1 _ _ _ hP hD hS (lv_sub hl [1, 2, 3, 0] rfl)
  · subst er
    have h := (sm_l _ _ _).symm.trans h
    exact Option.some.inj h
  · subst er
    have h := (sm_r _ _ _).symm.trans h
    refine lv_iconst (v := (1 : Int32)) hx hb dX0_isAsTasted_53 k_iconst_1 ?_
    have hres := Option.some.inj h
    subst hres
    exact hRet 54 nz1 _ _ _ hP hD hS dX0_isAsTasted_54
abbrev rm_X0_dropUntasted : Room := { frames := 2, cells := 0, slots := 0, locals := 44 }
theorem fi_X0_dropUntasted_X0 : ∀ w ∈ wsX00, w ∈ wsX0_dropUntasted := fun _ h => List.mem_cons_of_mem _ (List.mem_append_right _ h)
theorem hdV_X0_dropUntasted : yX0_dropUntasted.cls = RX0 ∧ yX0_dropUntasted.cls ≠ "java/lang/invoke/MethodHandle" ∧ yX0_dropUntasted.cls ≠ "java/lang/invoke/VarHandle" ∧ (parseMethodDescriptor yX0_dropUntasted.desc).map (fun d => d.parameters.length) = some 1 := by decide +kernel
set_option maxRecDepth 100000 in
set_option maxHeartbeats 4000000 in
theorem c_X0_dropUntasted (l : Launch) (G : va_G) (cI cZ : ClassId) (aC : Nat → Nat) (vC : Ob) (x1 : Int32) (res : Ob) (h : m_X0_dropUntasted vC x1 = some res) : Ct l yX0_dropUntasted wsX0_dropUntasted rm_X0_dropUntasted G cI cZ [.ref (aC 0), .int x1] [oX0 aC vC, ai cI (aC 4) 6 (vC 4), ai cI (aC 5) 6 (vC 5), ai cI (aC 6) 6 (vC 6), ai cI (aC 7) 6 (vC 7), ai cI (aC 8) 64 (vC 8)] none [oX0 aC res, ai cI (aC 4) 6 (res 4), ai cI (aC 5) 6 (res 5), ai cI (aC 6) 6 (res 6), ai cI (aC 7) 6 (res 7), ai cI (aC 8) 64 (res 8)] := by
  refine Ct.of_v (maxL := 4) (by decide) rfl (Nat.le_of_ble_eq_true rfl) ?_
  intro p e s m below meth c args hx hb hml hown hts A hA hEN hP hD hS Q hRet ls hl
  have hown : s.vm.findClass RX0 = some m.cls := hown
  have hl : lv_has ls 4 [(0, .ref (aC 0)), (1, .int x1)] := hl
  have L4 : ∀ (out : Ob × Int32), (∀ ex : Ob × Int32, out = ex → ∀ (H : Heap) (locs : List Loc) (ls : Array Slot), va_P G vwCl [oX0 aC ex.1, ai cI (aC 4) 6 (ex.1 4), ai cI (aC 5) 6 (ex.1 5), ai cI (aC 6) 6 (ex.1 6), ai cI (aC 7) 6 (ex.1 7), ai cI (aC 8) 64 (ex.1 8)] H → va_D A [oX0 aC ex.1, ai cI (aC 4) 6 (ex.1 4), ai cI (aC 5) 6 (ex.1 5), ai cI (aC 6) 6 (ex.1 6), ai cI (aC 7) 6 (ex.1 7), ai cI (aC 8) 64 (ex.1 8)] → va_S A s.heap H locs → lv_has ls 4 [(0, .ref (aC 0)), (2, .int ex.2)] → W p l e rm_X0_dropUntasted s m args below meth c H locs 0 0 Q (F0 m 56 ls [])) → ∀ (n : Nat) (vC : Ob) (x1 : Int32) (x2 : Int32) (x3 : Int32), m_X0_dropUntasted_L4  n vC x1 x2 x3 = some out → ∀ (H : Heap) (locs : List Loc) (ls : Array Slot), va_P G vwCl [oX0 aC vC, ai cI (aC 4) 6 (vC 4), ai cI (aC 5) 6 (vC 5), ai cI (aC 6) 6 (vC 6), ai cI (aC 7) 6 (vC 7), ai cI (aC 8) 64 (vC 8)] H → va_D A [oX0 aC vC, ai cI (aC 4) 6 (vC 4), ai cI (aC 5) 6 (vC 5), ai cI (aC 6) 6 (vC 6), ai cI (aC 7) 6 (vC 7), ai cI (aC 8) 64 (vC 8)] → va_S A s.heap H locs → lv_has ls 4 [(0, .ref (aC 0)), (1, .int x1), (2, .int x2), (3, .int x3)] → W p l e rm_X0_dropUntasted s m args below meth c H locs 0 0 Q (F0 m 4 ls []) := by
    intro out hKx
    have j50 : ∀ (rc : Ob → Int32 → Int32 → Int32 → Option (Ob × Int32)), (∀ (vC : Ob) (x1 : Int32) (x2 : Int32) (x3 : Int32), rc vC x1 x2 x3 = some out → ∀ (H : Heap) (locs : List Loc) (ls : Array Slot), va_P G vwCl [oX0 aC vC, ai cI (aC 4) 6 (vC 4), ai cI (aC 5) 6 (vC 5), ai cI (aC 6) 6 (vC 6), ai cI (aC 7) 6 (vC 7), ai cI (aC 8) 64 (vC 8)] H → va_D A [oX0 aC vC, ai cI (aC 4) 6 (vC 4), ai cI (aC 5) 6 (vC 5), ai cI (aC 6) 6 (vC 6), ai cI (aC 7) 6 (vC 7), ai cI (aC 8) 64 (vC 8)] → va_S A s.heap H locs → lv_has ls 4 [(0, .ref (aC 0)), (1, .int x1), (2, .int x2), (3, .int x3)] → W p l e rm_X0_dropUntasted s m args below meth c H locs 0 0 Q (F0 m 4 ls [])) → ∀ (vC : Ob) (x1 : Int32) (x2 : Int32) (x3 : Int32), m_X0_dropUntasted_j50  rc vC x1 x2 x3 = some out → ∀ (H : Heap) (locs : List Loc) (ls : Array Slot), va_P G vwCl [oX0 aC vC, ai cI (aC 4) 6 (vC 4), ai cI (aC 5) 6 (vC 5), ai cI (aC 6) 6 (vC 6), ai cI (aC 7) 6 (vC 7), ai cI (aC 8) 64 (vC 8)] H → va_D A [oX0 aC vC, ai cI (aC 4) 6 (vC 4), ai cI (aC 5) 6 (vC 5), ai cI (aC 6) 6 (vC 6), ai cI (aC 7) 6 (vC 7), ai cI (aC 8) 64 (vC 8)] → va_S A s.heap H locs → lv_has ls 4 [(0, .ref (aC 0)), (1, .int x1), (2, .int x2), (3, .int x3)] → W p l e rm_X0_dropUntasted s m args below meth c H locs 0 0 Q (F0 m 50 ls []) := by
      intro rc hrc vC x1 x2 x3 h H locs ls hP hD hS hl
      unfold m_X0_dropUntasted_j50 at h
      refine lv_iinc (v := (x3 + (1 : Int32))) (lv' := [(3, .int (x3 + (1 : Int32))), (0, .ref (aC 0)), (1, .int x1), (2, .int x2)]) hx hb dX0_dropUntasted_50 hl (k := 3) rfl (congrArg (fun z => x3 + z) k_iconst_1) (by decide) rfl (fun ls hl => ?_)
      refine lv_goto (tgt := 4) hx hb dX0_dropUntasted_53 (by decide) ?_
      exact hrc vC x1 x2 (x3 + (1 : Int32)) h _ _ _ hP hD hS (lv_sub hl [1, 2, 3, 0] rfl)
    intro n
    induction n with
    | zero => intro vC x1 x2 x3 h; exact nomatch (show (none : Option (Ob × Int32)) = some out from h)
    | succ n hrc =>
      intro vC x1 x2 x3 h H locs ls hP hD hS hl
      have h : m_X0_dropUntasted_L4B  (m_X0_dropUntasted_L4  n) vC x1 x2 x3 = some out := h
      generalize m_X0_dropUntasted_L4  n = rc at h hrc
      unfold m_X0_dropUntasted_L4B at h
      refine lv_iload_n hx hb dX0_dropUntasted_4 rfl (lv_at hl 3 rfl) ?_
      refine lv_aload_n hx hb dX0_dropUntasted_5 rfl (lv_at hl 0 rfl) ?_
      refine va_get (D := G) (ci := 0) (v := .int (vC 0 2)) (C := RX0) (T := TX0) (N := 8) hx hb hts fi_X0_dropUntasted_X0 hown hEN.1 hP 0 rfl rfl 2 (by decide) (hts (.fieldLink RX0 38 "HourWell$Cups" "rowCount" "I") (List.mem_of_getElem? (i := 1) rfl)) (fun _ h9 => h9) rfl dX0_dropUntasted_6 ?_
      refine lv_icmp_ge (tgt := 56) hx hb dX0_dropUntasted_9 (by decide) (fun c9 => ?_) (fun c9 => ?_)
      · have h := (if_pos c9).symm.trans h
        exact hKx _ (Option.some.inj h).symm _ _ _ hP hD hS (lv_sub hl [0, 2] rfl)
      · have h := (if_neg c9).symm.trans h
        refine lv_iload_n hx hb dX0_dropUntasted_12 rfl (lv_at hl 3 rfl) ?_
        refine lv_bipush (v := (64 : Int32)) hx hb dX0_dropUntasted_13 k_bipush_64 ?_
        refine lv_icmp_ge (tgt := 56) hx hb dX0_dropUntasted_15 (by decide) (fun c15 => ?_) (fun c15 => ?_)
        · have h := (if_pos c15).symm.trans h
          exact hKx _ (Option.some.inj h).symm _ _ _ hP hD hS (lv_sub hl [0, 2] rfl)
        · have h := (if_neg c15).symm.trans h
          refine lv_aload_n hx hb dX0_dropUntasted_18 rfl (lv_at hl 0 rfl) ?_
          refine lv_aload_n hx hb dX0_dropUntasted_19 rfl (lv_at hl 0 rfl) ?_
          refine va_get (D := G) (ci := 0) (v := .ref (aC 8)) (C := RX0) (T := TX0) (N := 8) hx hb hts fi_X0_dropUntasted_X0 hown hEN.1 hP 0 rfl rfl 7 (by decide) (hts (.fieldLink RX0 24 "HourWell$Cups" "rows" "[I") (List.mem_of_getElem? (i := 2) rfl)) (fun _ h9 => h9) rfl dX0_dropUntasted_20 ?_
          refine lv_iload_n hx hb dX0_dropUntasted_23 rfl (lv_at hl 3 rfl) ?_
          obtain ⟨hg24, h⟩ := grd_some h
          refine va_iald (f := (vC 8)) hx hb hEN.1 hP 5 0 rfl rfl (inb_in hg24) dX0_dropUntasted_24 ?_
          refine lv_iload_n hx hb dX0_dropUntasted_25 rfl (lv_at hl 1 rfl) ?_
          obtain ⟨o26, ho26, h⟩ := bnd_some h
          refine call_V0 (As := [.int ((vC 8) (Int32.toNatClampNeg x3)), .int x1]) (rest := []) ⟨hx, hb, hml, hown, hts⟩ (c_X0_isAsTasted l G cI cZ aC vC ((vC 8) (Int32.toNatClampNeg x3)) x1 o26 ho26) (cwV 2 hts gX0_dropUntasted_X0_isAsTasted rfl rfl rfl hdV_X0_isAsTasted ⟨Nat.le_of_ble_eq_true rfl, Nat.le_of_ble_eq_true rfl⟩) hEN hA hP hD hS [0, 3, 4] rfl (by decide) 0 rfl rfl rfl hl.1 rfl (Nat.le_of_ble_eq_true rfl) dX0_dropUntasted_26 ⟨Nat.le_of_ble_eq_true rfl, Nat.le_of_ble_eq_true rfl⟩ (fun H locs hP hS => ?_)
          refine lv_if_ne (tgt := 35) hx hb dX0_dropUntasted_29 (by decide) (fun c29 => ?_) (fun c29 => ?_)
          · have h := (if_neg c29).symm.trans h
            refine lv_aload_n hx hb dX0_dropUntasted_35 rfl (lv_at hl 0 rfl) ?_
            refine va_get (D := G) (ci := 0) (v := .ref (aC 8)) (C := RX0) (T := TX0) (N := 8) hx hb hts fi_X0_dropUntasted_X0 hown hEN.1 hP 0 rfl rfl 7 (by decide) (hts (.fieldLink RX0 24 "HourWell$Cups" "rows" "[I") (List.mem_of_getElem? (i := 2) rfl)) (fun _ h9 => h9) rfl dX0_dropUntasted_36 ?_
            refine lv_iload_n hx hb dX0_dropUntasted_39 rfl (lv_at hl 2 rfl) ?_
            refine lv_aload_n hx hb dX0_dropUntasted_40 rfl (lv_at hl 0 rfl) ?_
            refine va_get (D := G) (ci := 0) (v := .ref (aC 8)) (C := RX0) (T := TX0) (N := 8) hx hb hts fi_X0_dropUntasted_X0 hown hEN.1 hP 0 rfl rfl 7 (by decide) (hts (.fieldLink RX0 24 "HourWell$Cups" "rows" "[I") (List.mem_of_getElem? (i := 2) rfl)) (fun _ h9 => h9) rfl dX0_dropUntasted_41 ?_
            refine lv_iload_n hx hb dX0_dropUntasted_44 rfl (lv_at hl 3 rfl) ?_
            obtain ⟨hg45, h⟩ := grd_some h
            refine va_iald (f := (vC 8)) hx hb hEN.1 hP 5 0 rfl rfl (inb_in hg45) dX0_dropUntasted_45 ?_
            obtain ⟨hg46, h⟩ := grd_some h
            refine va_iast (f := (vC 8)) hx hb hEN.1 hP hD hS 5 0 rfl rfl (inb_in hg46) dX0_dropUntasted_46 (fun H locs hP hD hS => ?_)
            have hP : va_P G vwCl [oX0 aC vC, ai cI (aC 4) 6 (vC 4), ai cI (aC 5) 6 (vC 5), ai cI (aC 6) 6 (vC 6), ai cI (aC 7) 6 (vC 7), ai cI (aC 8) 64 (upd (vC 8) (Int32.toNatClampNeg x2) ((vC 8) (Int32.toNatClampNeg x3)))] H := hP
            have hD : va_D A [oX0 aC vC, ai cI (aC 4) 6 (vC 4), ai cI (aC 5) 6 (vC 5), ai cI (aC 6) 6 (vC 6), ai cI (aC 7) 6 (vC 7), ai cI (aC 8) 64 (upd (vC 8) (Int32.toNatClampNeg x2) ((vC 8) (Int32.toNatClampNeg x3)))] := hD
            refine lv_iinc (v := (x2 + (1 : Int32))) (lv' := [(2, .int (x2 + (1 : Int32))), (0, .ref (aC 0)), (1, .int x1), (3, .int x3)]) hx hb dX0_dropUntasted_47 hl (k := 2) rfl (congrArg (fun z => x2 + z) k_iconst_1) (by decide) rfl (fun ls hl => ?_)
            exact j50 rc hrc (st vC 8 (Int32.toNatClampNeg x2) ((vC 8) (Int32.toNatClampNeg x3))) x1 (x2 + (1 : Int32)) x3 h _ _ _ hP hD hS (lv_sub hl [1, 2, 0, 3] rfl)
          · have h := (if_pos c29).symm.trans h
            refine lv_goto (tgt := 50) hx hb dX0_dropUntasted_32 (by decide) ?_
            exact j50 rc hrc vC x1 x2 x3 h _ _ _ hP hD hS (lv_sub hl [0, 1, 2, 3] rfl)
  unfold m_X0_dropUntasted at h
  refine lv_iconst (v := (0 : Int32)) hx hb dX0_dropUntasted_0 k_iconst_0 ?_
  refine lv_istore_n (lv' := [(2, .int (0 : Int32)), (0, .ref (aC 0)), (1, .int x1)]) hx hb dX0_dropUntasted_1 rfl hl (by decide) rfl (fun ls hl => ?_)
  refine lv_iconst (v := (0 : Int32)) hx hb dX0_dropUntasted_2 k_iconst_0 ?_
  refine lv_istore_n (lv' := [(3, .int (0 : Int32)), (2, .int (0 : Int32)), (0, .ref (aC 0)), (1, .int x1)]) hx hb dX0_dropUntasted_3 rfl hl (by decide) rfl (fun ls hl => ?_)
  obtain ⟨o4_1, ho4_1, h⟩ := bnd_some h
  refine L4 o4_1 (fun o4_1e er H locs ls hP hD hS hl => ?_) FU vC x1 (0 : Int32) (0 : Int32) ho4_1 _ _ _ hP hD hS (lv_sub hl [2, 3, 1, 0] rfl)
  subst er
  refine lv_aload_n hx hb dX0_dropUntasted_56 rfl (lv_at hl 0 rfl) ?_
  refine lv_iload_n hx hb dX0_dropUntasted_57 rfl (lv_at hl 1 rfl) ?_
  refine va_put (D := G) (ci := 0) (v := .int o4_1.2) (ty := .int) (C := RX0) (T := TX0) (N := 8) hx hb hts fi_X0_dropUntasted_X0 tyX0 tyX0_ok nmX0 hown hEN.1 hP hD hS 0 rfl rfl 2 (by decide) (hts (.fieldLink RX0 38 "HourWell$Cups" "rowCount" "I") (List.mem_of_getElem? (i := 1) rfl)) (fun _ h9 => h9) rfl (by decide +kernel) rfl rfl (Nat.le_of_ble_eq_true rfl) dX0_dropUntasted_58 (fun H locs hP hD hS => ?_)
  have hP : va_P G vwCl [oX0 aC (st o4_1.1 0 2 o4_1.2), ai cI (aC 4) 6 (o4_1.1 4), ai cI (aC 5) 6 (o4_1.1 5), ai cI (aC 6) 6 (o4_1.1 6), ai cI (aC 7) 6 (o4_1.1 7), ai cI (aC 8) 64 (o4_1.1 8)] H := hP
  have hD : va_D A [oX0 aC (st o4_1.1 0 2 o4_1.2), ai cI (aC 4) 6 (o4_1.1 4), ai cI (aC 5) 6 (o4_1.1 5), ai cI (aC 6) 6 (o4_1.1 6), ai cI (aC 7) 6 (o4_1.1 7), ai cI (aC 8) 64 (o4_1.1 8)] := hD
  have hres := Option.some.inj h
  subst hres
  exact hRet 61 _ _ _ hP hD hS dX0_dropUntasted_61
abbrev rm_X0_gatherRows : Room := { frames := 3, cells := 0, slots := 0, locals := 69 }
theorem fi_X0_gatherRows_X0 : ∀ w ∈ wsX00, w ∈ wsX0_gatherRows := fun _ h => List.mem_cons_of_mem _ (List.mem_append_right _ h)
theorem hdV_X0_gatherRows : yX0_gatherRows.cls = RX0 ∧ yX0_gatherRows.cls ≠ "java/lang/invoke/MethodHandle" ∧ yX0_gatherRows.cls ≠ "java/lang/invoke/VarHandle" ∧ (parseMethodDescriptor yX0_gatherRows.desc).map (fun d => d.parameters.length) = some 1 := by decide +kernel
set_option maxRecDepth 100000 in
set_option maxHeartbeats 4000000 in
theorem c_X0_gatherRows (l : Launch) (G : va_G) (cI cZ : ClassId) (aC : Nat → Nat) (vC : Ob) (x1 : Int32) (res : Ob) (h : m_X0_gatherRows vC x1 = some res) : Ct l yX0_gatherRows wsX0_gatherRows rm_X0_gatherRows G cI cZ [.ref (aC 0), .int x1] [oX0 aC vC, ai cI (aC 4) 6 (vC 4), ai cI (aC 5) 6 (vC 5), ai cI (aC 6) 6 (vC 6), ai cI (aC 7) 6 (vC 7), ai cI (aC 8) 64 (vC 8)] none [oX0 aC res, ai cI (aC 4) 6 (res 4), ai cI (aC 5) 6 (res 5), ai cI (aC 6) 6 (res 6), ai cI (aC 7) 6 (res 7), ai cI (aC 8) 64 (res 8)] := by
  refine Ct.of_v (maxL := 3) (by decide) rfl (Nat.le_of_ble_eq_true rfl) ?_
  intro p e s m below meth c args hx hb hml hown hts A hA hEN hP hD hS Q hRet ls hl
  have hown : s.vm.findClass RX0 = some m.cls := hown
  have hl : lv_has ls 3 [(0, .ref (aC 0)), (1, .int x1)] := hl
  have L15 : ∀ (out : Ob × Int32), (∀ ex : Ob × Int32, out = ex → ∀ (H : Heap) (locs : List Loc) (ls : Array Slot), va_P G vwCl [oX0 aC ex.1, ai cI (aC 4) 6 (ex.1 4), ai cI (aC 5) 6 (ex.1 5), ai cI (aC 6) 6 (ex.1 6), ai cI (aC 7) 6 (ex.1 7), ai cI (aC 8) 64 (ex.1 8)] H → va_D A [oX0 aC ex.1, ai cI (aC 4) 6 (ex.1 4), ai cI (aC 5) 6 (ex.1 5), ai cI (aC 6) 6 (ex.1 6), ai cI (aC 7) 6 (ex.1 7), ai cI (aC 8) 64 (ex.1 8)] → va_S A s.heap H locs → lv_has ls 3 [(0, .ref (aC 0)), (1, .int ex.2)] → W p l e rm_X0_gatherRows s m args below meth c H locs 0 0 Q (F0 m 71 ls [])) → ∀ (n : Nat) (vC : Ob) (x1 : Int32) (x2 : Int32), m_X0_gatherRows_L15  n vC x1 x2 = some out → ∀ (H : Heap) (locs : List Loc) (ls : Array Slot), va_P G vwCl [oX0 aC vC, ai cI (aC 4) 6 (vC 4), ai cI (aC 5) 6 (vC 5), ai cI (aC 6) 6 (vC 6), ai cI (aC 7) 6 (vC 7), ai cI (aC 8) 64 (vC 8)] H → va_D A [oX0 aC vC, ai cI (aC 4) 6 (vC 4), ai cI (aC 5) 6 (vC 5), ai cI (aC 6) 6 (vC 6), ai cI (aC 7) 6 (vC 7), ai cI (aC 8) 64 (vC 8)] → va_S A s.heap H locs → lv_has ls 3 [(0, .ref (aC 0)), (1, .int x1), (2, .int x2)] → W p l e rm_X0_gatherRows s m args below meth c H locs 0 0 Q (F0 m 15 ls []) := by
    intro out hKx
    have j65 : ∀ (rc : Ob → Int32 → Int32 → Option (Ob × Int32)), (∀ (vC : Ob) (x1 : Int32) (x2 : Int32), rc vC x1 x2 = some out → ∀ (H : Heap) (locs : List Loc) (ls : Array Slot), va_P G vwCl [oX0 aC vC, ai cI (aC 4) 6 (vC 4), ai cI (aC 5) 6 (vC 5), ai cI (aC 6) 6 (vC 6), ai cI (aC 7) 6 (vC 7), ai cI (aC 8) 64 (vC 8)] H → va_D A [oX0 aC vC, ai cI (aC 4) 6 (vC 4), ai cI (aC 5) 6 (vC 5), ai cI (aC 6) 6 (vC 6), ai cI (aC 7) 6 (vC 7), ai cI (aC 8) 64 (vC 8)] → va_S A s.heap H locs → lv_has ls 3 [(0, .ref (aC 0)), (1, .int x1), (2, .int x2)] → W p l e rm_X0_gatherRows s m args below meth c H locs 0 0 Q (F0 m 15 ls [])) → ∀ (vC : Ob) (x1 : Int32) (x2 : Int32), m_X0_gatherRows_j65  rc vC x1 x2 = some out → ∀ (H : Heap) (locs : List Loc) (ls : Array Slot), va_P G vwCl [oX0 aC vC, ai cI (aC 4) 6 (vC 4), ai cI (aC 5) 6 (vC 5), ai cI (aC 6) 6 (vC 6), ai cI (aC 7) 6 (vC 7), ai cI (aC 8) 64 (vC 8)] H → va_D A [oX0 aC vC, ai cI (aC 4) 6 (vC 4), ai cI (aC 5) 6 (vC 5), ai cI (aC 6) 6 (vC 6), ai cI (aC 7) 6 (vC 7), ai cI (aC 8) 64 (vC 8)] → va_S A s.heap H locs → lv_has ls 3 [(0, .ref (aC 0)), (1, .int x1), (2, .int x2)] → W p l e rm_X0_gatherRows s m args below meth c H locs 0 0 Q (F0 m 65 ls []) := by
      intro rc hrc vC x1 x2 h H locs ls hP hD hS hl
      unfold m_X0_gatherRows_j65 at h
      refine lv_iinc (v := (x2 + (1 : Int32))) (lv' := [(2, .int (x2 + (1 : Int32))), (0, .ref (aC 0)), (1, .int x1)]) hx hb dX0_gatherRows_65 hl (k := 2) rfl (congrArg (fun z => x2 + z) k_iconst_1) (by decide) rfl (fun ls hl => ?_)
      refine lv_goto (tgt := 15) hx hb dX0_gatherRows_68 (by decide) ?_
      exact hrc vC x1 (x2 + (1 : Int32)) h _ _ _ hP hD hS (lv_sub hl [1, 2, 0] rfl)
    intro n
    induction n with
    | zero => intro vC x1 x2 h; exact nomatch (show (none : Option (Ob × Int32)) = some out from h)
    | succ n hrc =>
      intro vC x1 x2 h H locs ls hP hD hS hl
      have h : m_X0_gatherRows_L15B  (m_X0_gatherRows_L15  n) vC x1 x2 = some out := h
      generalize m_X0_gatherRows_L15  n = rc at h hrc
      unfold m_X0_gatherRows_L15B at h
      refine lv_iload_n hx hb dX0_gatherRows_15 rfl (lv_at hl 2 rfl) ?_
      refine lv_aload_n hx hb dX0_gatherRows_16 rfl (lv_at hl 0 rfl) ?_
      refine va_get (D := G) (ci := 0) (v := .int (vC 0 0)) (C := RX0) (T := TX0) (N := 8) hx hb hts fi_X0_gatherRows_X0 hown hEN.1 hP 0 rfl rfl 0 (by decide) (hts (.fieldLink RX0 27 "HourWell$Cups" "swapped" "I") (List.mem_of_getElem? (i := 2) rfl)) (fun _ h9 => h9) rfl dX0_gatherRows_17 ?_
      refine lv_icmp_ge (tgt := 71) hx hb dX0_gatherRows_20 (by decide) (fun c20 => ?_) (fun c20 => ?_)
      · have h := (if_pos c20).symm.trans h
        exact hKx _ (Option.some.inj h).symm _ _ _ hP hD hS (lv_sub hl [0, 1] rfl)
      · have h := (if_neg c20).symm.trans h
        refine lv_iload_n hx hb dX0_gatherRows_23 rfl (lv_at hl 2 rfl) ?_
        refine lv_bipush (v := (6 : Int32)) hx hb dX0_gatherRows_24 k_bipush_6 ?_
        refine lv_icmp_ge (tgt := 71) hx hb dX0_gatherRows_26 (by decide) (fun c26 => ?_) (fun c26 => ?_)
        · have h := (if_pos c26).symm.trans h
          exact hKx _ (Option.some.inj h).symm _ _ _ hP hD hS (lv_sub hl [0, 1] rfl)
        · have h := (if_neg c26).symm.trans h
          refine lv_aload_n hx hb dX0_gatherRows_29 rfl (lv_at hl 0 rfl) ?_
          refine va_get (D := G) (ci := 0) (v := .ref (aC 4)) (C := RX0) (T := TX0) (N := 8) hx hb hts fi_X0_gatherRows_X0 hown hEN.1 hP 0 rfl rfl 3 (by decide) (hts (.fieldLink RX0 9 "HourWell$Cups" "firstSeats" "[I") (List.mem_of_getElem? (i := 3) rfl)) (fun _ h9 => h9) rfl dX0_gatherRows_30 ?_
          refine lv_iload_n hx hb dX0_gatherRows_33 rfl (lv_at hl 2 rfl) ?_
          obtain ⟨hg34, h⟩ := grd_some h
          refine va_iald (f := (vC 4)) hx hb hEN.1 hP 1 0 rfl rfl (inb_in hg34) dX0_gatherRows_34 ?_
          refine lv_iload_n hx hb dX0_gatherRows_35 rfl (lv_at hl 1 rfl) ?_
          refine lv_icmp_ge (tgt := 65) hx hb dX0_gatherRows_36 (by decide) (fun c36 => ?_) (fun c36 => ?_)
          · have h := (if_pos c36).symm.trans h
            exact j65 rc hrc vC x1 x2 h _ _ _ hP hD hS (lv_sub hl [0, 1, 2] rfl)
          · have h := (if_neg c36).symm.trans h
            refine lv_aload_n hx hb dX0_gatherRows_39 rfl (lv_at hl 0 rfl) ?_
            refine va_get (D := G) (ci := 0) (v := .ref (aC 5)) (C := RX0) (T := TX0) (N := 8) hx hb hts fi_X0_gatherRows_X0 hown hEN.1 hP 0 rfl rfl 4 (by decide) (hts (.fieldLink RX0 15 "HourWell$Cups" "secondSeats" "[I") (List.mem_of_getElem? (i := 4) rfl)) (fun _ h9 => h9) rfl dX0_gatherRows_40 ?_
            refine lv_iload_n hx hb dX0_gatherRows_43 rfl (lv_at hl 2 rfl) ?_
            obtain ⟨hg44, h⟩ := grd_some h
            refine va_iald (f := (vC 5)) hx hb hEN.1 hP 2 0 rfl rfl (inb_in hg44) dX0_gatherRows_44 ?_
            refine lv_iload_n hx hb dX0_gatherRows_45 rfl (lv_at hl 1 rfl) ?_
            refine lv_icmp_ge (tgt := 65) hx hb dX0_gatherRows_46 (by decide) (fun c46 => ?_) (fun c46 => ?_)
            · have h := (if_pos c46).symm.trans h
              exact j65 rc hrc vC x1 x2 h _ _ _ hP hD hS (lv_sub hl [0, 1, 2] rfl)
            · have h := (if_neg c46).symm.trans h
              refine lv_aload_n hx hb dX0_gatherRows_49 rfl (lv_at hl 0 rfl) ?_
              refine lv_aload_n hx hb dX0_gatherRows_50 rfl (lv_at hl 0 rfl) ?_
              refine va_get (D := G) (ci := 0) (v := .ref (aC 4)) (C := RX0) (T := TX0) (N := 8) hx hb hts fi_X0_gatherRows_X0 hown hEN.1 hP 0 rfl rfl 3 (by decide) (hts (.fieldLink RX0 9 "HourWell$Cups" "firstSeats" "[I") (List.mem_of_getElem? (i := 3) rfl)) (fun _ h9 => h9) rfl dX0_gatherRows_51 ?_
              refine lv_iload_n hx hb dX0_gatherRows_54 rfl (lv_at hl 2 rfl) ?_
              obtain ⟨hg55, h⟩ := grd_some h
              refine va_iald (f := (vC 4)) hx hb hEN.1 hP 1 0 rfl rfl (inb_in hg55) dX0_gatherRows_55 ?_
              refine lv_aload_n hx hb dX0_gatherRows_56 rfl (lv_at hl 0 rfl) ?_
              refine va_get (D := G) (ci := 0) (v := .ref (aC 5)) (C := RX0) (T := TX0) (N := 8) hx hb hts fi_X0_gatherRows_X0 hown hEN.1 hP 0 rfl rfl 4 (by decide) (hts (.fieldLink RX0 15 "HourWell$Cups" "secondSeats" "[I") (List.mem_of_getElem? (i := 4) rfl)) (fun _ h9 => h9) rfl dX0_gatherRows_57 ?_
              refine lv_iload_n hx hb dX0_gatherRows_60 rfl (lv_at hl 2 rfl) ?_
              obtain ⟨hg61, h⟩ := grd_some h
              refine va_iald (f := (vC 5)) hx hb hEN.1 hP 2 0 rfl rfl (inb_in hg61) dX0_gatherRows_61 ?_
              obtain ⟨o62, ho62, h⟩ := bnd_some h
              refine call_VJ (wr := []) (As := [.int ((vC 4) (Int32.toNatClampNeg x2)), .int ((vC 5) (Int32.toNatClampNeg x2))]) (rest := []) ⟨hx, hb, hml, hown, hts⟩ (c_X0_addSwappedRows l G cI cZ aC vC ((vC 4) (Int32.toNatClampNeg x2)) ((vC 5) (Int32.toNatClampNeg x2)) o62 ho62) (cwV 2 hts gX0_gatherRows_X0_addSwappedRows rfl rfl rfl hdV_X0_addSwappedRows ⟨Nat.le_of_ble_eq_true rfl, Nat.le_of_ble_eq_true rfl⟩) hEN hA hP hD hS [0, 1, 2, 3, 4, 5] [] rfl (by decide) rfl (by decide) (by decide) 0 rfl rfl rfl hl.1 rfl (Nat.le_of_ble_eq_true rfl) dX0_gatherRows_62 ⟨Nat.le_of_ble_eq_true rfl, Nat.le_of_ble_eq_true rfl⟩ (fun H locs hP hD hS => ?_)
              have hP : va_P G vwCl [oX0 aC o62, ai cI (aC 4) 6 (o62 4), ai cI (aC 5) 6 (o62 5), ai cI (aC 6) 6 (o62 6), ai cI (aC 7) 6 (o62 7), ai cI (aC 8) 64 (o62 8)] H := hP
              have hD : va_D A [oX0 aC o62, ai cI (aC 4) 6 (o62 4), ai cI (aC 5) 6 (o62 5), ai cI (aC 6) 6 (o62 6), ai cI (aC 7) 6 (o62 7), ai cI (aC 8) 64 (o62 8)] := hD
              exact j65 rc hrc o62 x1 x2 h _ _ _ hP hD hS (lv_sub hl [0, 1, 2] rfl)
  unfold m_X0_gatherRows at h
  refine lv_aload_n hx hb dX0_gatherRows_0 rfl (lv_at hl 0 rfl) ?_
  refine lv_iconst (v := (0 : Int32)) hx hb dX0_gatherRows_1 k_iconst_0 ?_
  refine va_put (D := G) (ci := 0) (v := .int (0 : Int32)) (ty := .int) (C := RX0) (T := TX0) (N := 8) hx hb hts fi_X0_gatherRows_X0 tyX0 tyX0_ok nmX0 hown hEN.1 hP hD hS 0 rfl rfl 2 (by decide) (hts (.fieldLink RX0 38 "HourWell$Cups" "rowCount" "I") (List.mem_of_getElem? (i := 1) rfl)) (fun _ h9 => h9) rfl (by decide +kernel) rfl rfl (Nat.le_of_ble_eq_true rfl) dX0_gatherRows_2 (fun H locs hP hD hS => ?_)
  have hP : va_P G vwCl [oX0 aC (st vC 0 2 (0 : Int32)), ai cI (aC 4) 6 (vC 4), ai cI (aC 5) 6 (vC 5), ai cI (aC 6) 6 (vC 6), ai cI (aC 7) 6 (vC 7), ai cI (aC 8) 64 (vC 8)] H := hP
  have hD : va_D A [oX0 aC (st vC 0 2 (0 : Int32)), ai cI (aC 4) 6 (vC 4), ai cI (aC 5) 6 (vC 5), ai cI (aC 6) 6 (vC 6), ai cI (aC 7) 6 (vC 7), ai cI (aC 8) 64 (vC 8)] := hD
  refine lv_aload_n hx hb dX0_gatherRows_5 rfl (lv_at hl 0 rfl) ?_
  refine lv_iload_n hx hb dX0_gatherRows_6 rfl (lv_at hl 1 rfl) ?_
  obtain ⟨o7, ho7, h⟩ := bnd_some h
  refine call_S0 (As := [.int x1]) (rest := [.ref (aC 0)]) ⟨hx, hb, hml, hown, hts⟩ (c_X0_rowAtFirst l G cI cZ  x1 o7 ho7) (va_cwS 1 hts gX0_gatherRows_X0_rowAtFirst rfl rfl rfl hdS_X0_rowAtFirst ⟨Nat.le_of_ble_eq_true rfl, Nat.le_of_ble_eq_true rfl⟩) hEN hA hP hD hS [] rfl (by decide) rfl hl.1 rfl (Nat.le_of_ble_eq_true rfl) dX0_gatherRows_7 ⟨Nat.le_of_ble_eq_true rfl, Nat.le_of_ble_eq_true rfl⟩ (fun H locs hP hS => ?_)
  obtain ⟨o10, ho10, h⟩ := bnd_some h
  refine call_VJ (wr := []) (As := [.int o7]) (rest := []) ⟨hx, hb, hml, hown, hts⟩ (c_X0_addRow l G cI cZ aC (st vC 0 2 (0 : Int32)) o7 o10 ho10) (cwV 1 hts gX0_gatherRows_X0_addRow rfl rfl rfl hdV_X0_addRow ⟨Nat.le_of_ble_eq_true rfl, Nat.le_of_ble_eq_true rfl⟩) hEN hA hP hD hS [0, 1, 2, 3, 4, 5] [] rfl (by decide) rfl (by decide) (by decide) 0 rfl rfl rfl hl.1 rfl (Nat.le_of_ble_eq_true rfl) dX0_gatherRows_10 ⟨Nat.le_of_ble_eq_true rfl, Nat.le_of_ble_eq_true rfl⟩ (fun H locs hP hD hS => ?_)
  have hP : va_P G vwCl [oX0 aC o10, ai cI (aC 4) 6 (o10 4), ai cI (aC 5) 6 (o10 5), ai cI (aC 6) 6 (o10 6), ai cI (aC 7) 6 (o10 7), ai cI (aC 8) 64 (o10 8)] H := hP
  have hD : va_D A [oX0 aC o10, ai cI (aC 4) 6 (o10 4), ai cI (aC 5) 6 (o10 5), ai cI (aC 6) 6 (o10 6), ai cI (aC 7) 6 (o10 7), ai cI (aC 8) 64 (o10 8)] := hD
  refine lv_iconst (v := (0 : Int32)) hx hb dX0_gatherRows_13 k_iconst_0 ?_
  refine lv_istore_n (lv' := [(2, .int (0 : Int32)), (0, .ref (aC 0)), (1, .int x1)]) hx hb dX0_gatherRows_14 rfl hl (by decide) rfl (fun ls hl => ?_)
  obtain ⟨o15_1, ho15_1, h⟩ := bnd_some h
  refine L15 o15_1 (fun o15_1e er H locs ls hP hD hS hl => ?_) FU o10 x1 (0 : Int32) ho15_1 _ _ _ hP hD hS (lv_sub hl [1, 2, 0] rfl)
  subst er
  refine lv_aload_n hx hb dX0_gatherRows_71 rfl (lv_at hl 0 rfl) ?_
  refine lv_iload_n hx hb dX0_gatherRows_72 rfl (lv_at hl 1 rfl) ?_
  obtain ⟨o73, ho73, h⟩ := bnd_some h
  refine call_VJ (wr := []) (As := [.int o15_1.2]) (rest := []) ⟨hx, hb, hml, hown, hts⟩ (c_X0_dropUntasted l G cI cZ aC o15_1.1 o15_1.2 o73 ho73) (cwV 1 hts gX0_gatherRows_X0_dropUntasted rfl rfl rfl hdV_X0_dropUntasted ⟨Nat.le_of_ble_eq_true rfl, Nat.le_of_ble_eq_true rfl⟩) hEN hA hP hD hS [0, 1, 2, 3, 4, 5] [] rfl (by decide) rfl (by decide) (by decide) 0 rfl rfl rfl hl.1 rfl (Nat.le_of_ble_eq_true rfl) dX0_gatherRows_73 ⟨Nat.le_of_ble_eq_true rfl, Nat.le_of_ble_eq_true rfl⟩ (fun H locs hP hD hS => ?_)
  have hP : va_P G vwCl [oX0 aC o73, ai cI (aC 4) 6 (o73 4), ai cI (aC 5) 6 (o73 5), ai cI (aC 6) 6 (o73 6), ai cI (aC 7) 6 (o73 7), ai cI (aC 8) 64 (o73 8)] H := hP
  have hD : va_D A [oX0 aC o73, ai cI (aC 4) 6 (o73 4), ai cI (aC 5) 6 (o73 5), ai cI (aC 6) 6 (o73 6), ai cI (aC 7) 6 (o73 7), ai cI (aC 8) 64 (o73 8)] := hD
  have hres := Option.some.inj h
  subst hres
  exact hRet 76 _ _ _ hP hD hS dX0_gatherRows_76
abbrev rm_X0_cupsOn : Room := { frames := 1, cells := 0, slots := 0, locals := 21 }
theorem fi_X0_cupsOn_X0 : ∀ w ∈ wsX00, w ∈ wsX0_cupsOn := fun _ h => List.mem_cons_of_mem _ (List.mem_append_right _ h)
theorem hdV_X0_cupsOn : yX0_cupsOn.cls = RX0 ∧ yX0_cupsOn.cls ≠ "java/lang/invoke/MethodHandle" ∧ yX0_cupsOn.cls ≠ "java/lang/invoke/VarHandle" ∧ (parseMethodDescriptor yX0_cupsOn.desc).map (fun d => d.parameters.length) = some 1 := by decide +kernel
set_option maxRecDepth 100000 in
set_option maxHeartbeats 4000000 in
theorem c_X0_cupsOn (l : Launch) (G : va_G) (cI cZ : ClassId) (aC : Nat → Nat) (vC : Ob) (x1 : Int32) (res : Int32) (h : m_X0_cupsOn vC x1 = some res) : Ct l yX0_cupsOn wsX0_cupsOn rm_X0_cupsOn G cI cZ [.ref (aC 0), .int x1] [oX0 aC vC, ai cI (aC 8) 64 (vC 8)] (some (.int res)) [oX0 aC vC, ai cI (aC 8) 64 (vC 8)] := by
  refine Ct.of_i (maxL := 4) (by decide) rfl (Nat.le_of_ble_eq_true rfl) ?_
  intro p e s m below meth c args hx hb hml hown hts A hA hEN hP hD hS Q hRet ls hl
  have hown : s.vm.findClass RX0 = some m.cls := hown
  have hl : lv_has ls 4 [(0, .ref (aC 0)), (1, .int x1)] := hl
  have L4 : ∀ (out : Int32), (∀ ex : Int32, out = ex → ∀ (H : Heap) (locs : List Loc) (ls : Array Slot), va_P G vwCl [oX0 aC vC, ai cI (aC 8) 64 (vC 8)] H → va_D A [oX0 aC vC, ai cI (aC 8) 64 (vC 8)] → va_S A s.heap H locs → lv_has ls 4 [(2, .int ex)] → W p l e rm_X0_cupsOn s m args below meth c H locs 0 0 Q (F0 m 39 ls [])) → ∀ (n : Nat) (x1 : Int32) (x2 : Int32) (x3 : Int32), m_X0_cupsOn_L4 vC n x1 x2 x3 = some out → ∀ (H : Heap) (locs : List Loc) (ls : Array Slot), va_P G vwCl [oX0 aC vC, ai cI (aC 8) 64 (vC 8)] H → va_D A [oX0 aC vC, ai cI (aC 8) 64 (vC 8)] → va_S A s.heap H locs → lv_has ls 4 [(0, .ref (aC 0)), (1, .int x1), (2, .int x2), (3, .int x3)] → W p l e rm_X0_cupsOn s m args below meth c H locs 0 0 Q (F0 m 4 ls []) := by
    intro out hKx
    intro n
    induction n with
    | zero => intro x1 x2 x3 h; exact nomatch (show (none : Option (Int32)) = some out from h)
    | succ n hrc =>
      intro x1 x2 x3 h H locs ls hP hD hS hl
      have h : m_X0_cupsOn_L4B vC (m_X0_cupsOn_L4 vC n) x1 x2 x3 = some out := h
      generalize m_X0_cupsOn_L4 vC n = rc at h hrc
      unfold m_X0_cupsOn_L4B at h
      refine lv_iload_n hx hb dX0_cupsOn_4 rfl (lv_at hl 3 rfl) ?_
      refine lv_aload_n hx hb dX0_cupsOn_5 rfl (lv_at hl 0 rfl) ?_
      refine va_get (D := G) (ci := 0) (v := .int (vC 0 2)) (C := RX0) (T := TX0) (N := 8) hx hb hts fi_X0_cupsOn_X0 hown hEN.1 hP 0 rfl rfl 2 (by decide) (hts (.fieldLink RX0 38 "HourWell$Cups" "rowCount" "I") (List.mem_of_getElem? (i := 1) rfl)) (fun _ h9 => h9) rfl dX0_cupsOn_6 ?_
      refine lv_icmp_ge (tgt := 39) hx hb dX0_cupsOn_9 (by decide) (fun c9 => ?_) (fun c9 => ?_)
      · have h := (if_pos c9).symm.trans h
        exact hKx _ (Option.some.inj h).symm _ _ _ hP hD hS (lv_sub hl [2] rfl)
      · have h := (if_neg c9).symm.trans h
        refine lv_iload_n hx hb dX0_cupsOn_12 rfl (lv_at hl 3 rfl) ?_
        refine lv_bipush (v := (64 : Int32)) hx hb dX0_cupsOn_13 k_bipush_64 ?_
        refine lv_icmp_ge (tgt := 39) hx hb dX0_cupsOn_15 (by decide) (fun c15 => ?_) (fun c15 => ?_)
        · have h := (if_pos c15).symm.trans h
          exact hKx _ (Option.some.inj h).symm _ _ _ hP hD hS (lv_sub hl [2] rfl)
        · have h := (if_neg c15).symm.trans h
          refine lv_iload_n hx hb dX0_cupsOn_18 rfl (lv_at hl 2 rfl) ?_
          refine lv_iconst (v := (1 : Int32)) hx hb dX0_cupsOn_19 k_iconst_1 ?_
          refine lv_aload_n hx hb dX0_cupsOn_20 rfl (lv_at hl 0 rfl) ?_
          refine va_get (D := G) (ci := 0) (v := .ref (aC 8)) (C := RX0) (T := TX0) (N := 8) hx hb hts fi_X0_cupsOn_X0 hown hEN.1 hP 0 rfl rfl 7 (by decide) (hts (.fieldLink RX0 24 "HourWell$Cups" "rows" "[I") (List.mem_of_getElem? (i := 2) rfl)) (fun _ h9 => h9) rfl dX0_cupsOn_21 ?_
          refine lv_iload_n hx hb dX0_cupsOn_24 rfl (lv_at hl 3 rfl) ?_
          obtain ⟨hg25, h⟩ := grd_some h
          refine va_iald (f := (vC 8)) hx hb hEN.1 hP 1 0 rfl rfl (inb_in hg25) dX0_cupsOn_25 ?_
          refine lv_iload_n hx hb dX0_cupsOn_26 rfl (lv_at hl 1 rfl) ?_
          obtain ⟨o27, ho27, h⟩ := bnd_some h
          refine call_S0 (As := [.int ((vC 8) (Int32.toNatClampNeg x3)), .int x1]) (rest := [.int (1 : Int32), .int x2]) ⟨hx, hb, hml, hown, hts⟩ (c_X0_cupOn l G cI cZ  ((vC 8) (Int32.toNatClampNeg x3)) x1 o27 ho27) (va_cwS 2 hts gX0_cupsOn_X0_cupOn rfl rfl rfl hdS_X0_cupOn ⟨Nat.le_of_ble_eq_true rfl, Nat.le_of_ble_eq_true rfl⟩) hEN hA hP hD hS [] rfl (by decide) rfl hl.1 rfl (Nat.le_of_ble_eq_true rfl) dX0_cupsOn_27 ⟨Nat.le_of_ble_eq_true rfl, Nat.le_of_ble_eq_true rfl⟩ (fun H locs hP hS => ?_)
          refine lv_ishl hx hb dX0_cupsOn_30 ?_
          refine lv_ior hx hb dX0_cupsOn_31 ?_
          refine lv_istore_n (lv' := [(2, .int (x2 ||| ((1 : Int32) <<< (o27 &&& 31)))), (0, .ref (aC 0)), (1, .int x1), (3, .int x3)]) hx hb dX0_cupsOn_32 rfl hl (by decide) rfl (fun ls hl => ?_)
          refine lv_iinc (v := (x3 + (1 : Int32))) (lv' := [(3, .int (x3 + (1 : Int32))), (2, .int (x2 ||| ((1 : Int32) <<< (o27 &&& 31)))), (0, .ref (aC 0)), (1, .int x1)]) hx hb dX0_cupsOn_33 hl (k := 3) rfl (congrArg (fun z => x3 + z) k_iconst_1) (by decide) rfl (fun ls hl => ?_)
          refine lv_goto (tgt := 4) hx hb dX0_cupsOn_36 (by decide) ?_
          exact hrc x1 (x2 ||| ((1 : Int32) <<< (o27 &&& 31))) (x3 + (1 : Int32)) h _ _ _ hP hD hS (lv_sub hl [2, 3, 1, 0] rfl)
  unfold m_X0_cupsOn at h
  refine lv_iconst (v := (0 : Int32)) hx hb dX0_cupsOn_0 k_iconst_0 ?_
  refine lv_istore_n (lv' := [(2, .int (0 : Int32)), (0, .ref (aC 0)), (1, .int x1)]) hx hb dX0_cupsOn_1 rfl hl (by decide) rfl (fun ls hl => ?_)
  refine lv_iconst (v := (0 : Int32)) hx hb dX0_cupsOn_2 k_iconst_0 ?_
  refine lv_istore_n (lv' := [(3, .int (0 : Int32)), (2, .int (0 : Int32)), (0, .ref (aC 0)), (1, .int x1)]) hx hb dX0_cupsOn_3 rfl hl (by decide) rfl (fun ls hl => ?_)
  obtain ⟨o4_1, ho4_1, h⟩ := bnd_some h
  refine L4 o4_1 (fun o4_1e er H locs ls hP hD hS hl => ?_) FU x1 (0 : Int32) (0 : Int32) ho4_1 _ _ _ hP hD hS (lv_sub hl [2, 3, 1, 0] rfl)
  subst er
  refine lv_iload_n hx hb dX0_cupsOn_39 rfl (lv_at hl 0 rfl) ?_
  have hres := Option.some.inj h
  subst hres
  exact hRet 40 _ _ _ hP hD hS dX0_cupsOn_40
abbrev rm_X0_surelyOn : Room := { frames := 2, cells := 0, slots := 0, locals := 44 }
theorem fi_X0_surelyOn_X0 : ∀ w ∈ wsX00, w ∈ wsX0_surelyOn := fun _ h => List.mem_cons_of_mem _ (List.mem_append_right _ h)
theorem hdV_X0_surelyOn : yX0_surelyOn.cls = RX0 ∧ yX0_surelyOn.cls ≠ "java/lang/invoke/MethodHandle" ∧ yX0_surelyOn.cls ≠ "java/lang/invoke/VarHandle" ∧ (parseMethodDescriptor yX0_surelyOn.desc).map (fun d => d.parameters.length) = some 1 := by decide +kernel
set_option maxRecDepth 100000 in
set_option maxHeartbeats 4000000 in
theorem c_X0_surelyOn (l : Launch) (G : va_G) (cI cZ : ClassId) (aC : Nat → Nat) (vC : Ob) (x1 : Int32) (res : Int32) (h : m_X0_surelyOn vC x1 = some res) : Ct l yX0_surelyOn wsX0_surelyOn rm_X0_surelyOn G cI cZ [.ref (aC 0), .int x1] [oX0 aC vC, ai cI (aC 8) 64 (vC 8)] (some (.int res)) [oX0 aC vC, ai cI (aC 8) 64 (vC 8)] := by
  refine Ct.of_i (maxL := 2) (by decide) rfl (Nat.le_of_ble_eq_true rfl) ?_
  intro p e s m below meth c args hx hb hml hown hts A hA hEN hP hD hS Q hRet ls hl
  have hown : s.vm.findClass RX0 = some m.cls := hown
  have hl : lv_has ls 2 [(0, .ref (aC 0)), (1, .int x1)] := hl
  unfold m_X0_surelyOn at h
  refine lv_aload_n hx hb dX0_surelyOn_0 rfl (lv_at hl 0 rfl) ?_
  refine va_get (D := G) (ci := 0) (v := .int (vC 0 2)) (C := RX0) (T := TX0) (N := 8) hx hb hts fi_X0_surelyOn_X0 hown hEN.1 hP 0 rfl rfl 2 (by decide) (hts (.fieldLink RX0 38 "HourWell$Cups" "rowCount" "I") (List.mem_of_getElem? (i := 1) rfl)) (fun _ h9 => h9) rfl dX0_surelyOn_1 ?_
  refine lv_if_ne (tgt := 10) hx hb dX0_surelyOn_4 (by decide) (fun c4 => ?_) (fun c4 => ?_)
  · have h := (if_neg c4).symm.trans h
    refine lv_aload_n hx hb dX0_surelyOn_10 rfl (lv_at hl 0 rfl) ?_
    refine lv_iload_n hx hb dX0_surelyOn_11 rfl (lv_at hl 1 rfl) ?_
    obtain ⟨o12, ho12, h⟩ := bnd_some h
    refine call_V0 (As := [.int x1]) (rest := []) ⟨hx, hb, hml, hown, hts⟩ (c_X0_cupsOn l G cI cZ aC vC x1 o12 ho12) (cwV 1 hts gX0_surelyOn_X0_cupsOn rfl rfl rfl hdV_X0_cupsOn ⟨Nat.le_of_ble_eq_true rfl, Nat.le_of_ble_eq_true rfl⟩) hEN hA hP hD hS [0, 1] rfl (by decide) 0 rfl rfl rfl hl.1 rfl (Nat.le_of_ble_eq_true rfl) dX0_surelyOn_12 ⟨Nat.le_of_ble_eq_true rfl, Nat.le_of_ble_eq_true rfl⟩ (fun H locs hP hS => ?_)
    obtain ⟨o15, ho15, h⟩ := bnd_some h
    refine call_S0 (As := [.int o12]) (rest := []) ⟨hx, hb, hml, hown, hts⟩ (c_J6_bitCount_0f7a4 l G cI cZ  o12 o15 ho15) (va_cwS 1 hts gX0_surelyOn_J6_bitCount_0f7a4 rfl rfl rfl hdS_J6_bitCount_0f7a4 ⟨Nat.le_of_ble_eq_true rfl, Nat.le_of_ble_eq_true rfl⟩) hEN hA hP hD hS [] rfl (by decide) rfl hl.1 rfl (Nat.le_of_ble_eq_true rfl) dX0_surelyOn_15 ⟨Nat.le_of_ble_eq_true rfl, Nat.le_of_ble_eq_true rfl⟩ (fun H locs hP hS => ?_)
    refine lv_iconst (v := (1 : Int32)) hx hb dX0_surelyOn_18 k_iconst_1 ?_
    refine lv_icmp_ne (tgt := 35) hx hb dX0_surelyOn_19 (by decide) (fun c19 => ?_) (fun c19 => ?_)
    · have h := (if_neg c19).symm.trans h
      refine lv_bipush (v := (-5 : Int32)) hx hb dX0_surelyOn_35 k_bipush_n5 ?_
      have hres := Option.some.inj h
      subst hres
      exact hRet 37 _ _ _ hP hD hS dX0_surelyOn_37
    · have h := (if_pos c19).symm.trans h
      refine lv_aload_n hx hb dX0_surelyOn_22 rfl (lv_at hl 0 rfl) ?_
      refine va_get (D := G) (ci := 0) (v := .ref (aC 8)) (C := RX0) (T := TX0) (N := 8) hx hb hts fi_X0_surelyOn_X0 hown hEN.1 hP 0 rfl rfl 7 (by decide) (hts (.fieldLink RX0 24 "HourWell$Cups" "rows" "[I") (List.mem_of_getElem? (i := 2) rfl)) (fun _ h9 => h9) rfl dX0_surelyOn_23 ?_
      refine lv_iconst (v := (0 : Int32)) hx hb dX0_surelyOn_26 k_iconst_0 ?_
      refine va_iald (f := (vC 8)) hx hb hEN.1 hP 1 0 rfl rfl (inb_in (i := (0 : Int32)) (n := 64) rfl) dX0_surelyOn_27 ?_
      refine lv_iload_n hx hb dX0_surelyOn_28 rfl (lv_at hl 1 rfl) ?_
      obtain ⟨o29, ho29, h⟩ := bnd_some h
      refine call_S0 (As := [.int ((vC 8) (Int32.toNatClampNeg (0 : Int32))), .int x1]) (rest := []) ⟨hx, hb, hml, hown, hts⟩ (c_X0_cupOn l G cI cZ  ((vC 8) (Int32.toNatClampNeg (0 : Int32))) x1 o29 ho29) (va_cwS 2 hts gX0_surelyOn_X0_cupOn rfl rfl rfl hdS_X0_cupOn ⟨Nat.le_of_ble_eq_true rfl, Nat.le_of_ble_eq_true rfl⟩) hEN hA hP hD hS [] rfl (by decide) rfl hl.1 rfl (Nat.le_of_ble_eq_true rfl) dX0_surelyOn_29 ⟨Nat.le_of_ble_eq_true rfl, Nat.le_of_ble_eq_true rfl⟩ (fun H locs hP hS => ?_)
      refine lv_goto (tgt := 37) hx hb dX0_surelyOn_32 (by decide) ?_
      have hres := Option.some.inj h
      subst hres
      exact hRet 37 _ _ _ hP hD hS dX0_surelyOn_37
  · have h := (if_pos c4).symm.trans h
    refine lv_bipush (v := (-9 : Int32)) hx hb dX0_surelyOn_7 k_bipush_n9 ?_
    have hres := Option.some.inj h
    subst hres
    exact hRet 9 _ _ _ hP hD hS dX0_surelyOn_9
abbrev rm_X0_bestTaste : Room := { frames := 2, cells := 0, slots := 0, locals := 44 }
theorem fi_X0_bestTaste_X0 : ∀ w ∈ wsX00, w ∈ wsX0_bestTaste := fun _ h => List.mem_cons_of_mem _ (List.mem_append_right _ h)
theorem hdV_X0_bestTaste : yX0_bestTaste.cls = RX0 ∧ yX0_bestTaste.cls ≠ "java/lang/invoke/MethodHandle" ∧ yX0_bestTaste.cls ≠ "java/lang/invoke/VarHandle" ∧ (parseMethodDescriptor yX0_bestTaste.desc).map (fun d => d.parameters.length) = some 1 := by decide +kernel
set_option maxRecDepth 100000 in
set_option maxHeartbeats 4000000 in
theorem c_X0_bestTaste (l : Launch) (G : va_G) (cI cZ : ClassId) (aC : Nat → Nat) (vC : Ob) (x1 : Int32) (res : Int32) (h : m_X0_bestTaste vC x1 = some res) : Ct l yX0_bestTaste wsX0_bestTaste rm_X0_bestTaste G cI cZ [.ref (aC 0), .int x1] [oX0 aC vC, ai cI (aC 8) 64 (vC 8)] (some (.int res)) [oX0 aC vC, ai cI (aC 8) 64 (vC 8)] := by
  refine Ct.of_i (maxL := 6) (by decide) rfl (Nat.le_of_ble_eq_true rfl) ?_
  intro p e s m below meth c args hx hb hml hown hts A hA hEN hP hD hS Q hRet ls hl
  have hown : s.vm.findClass RX0 = some m.cls := hown
  have hl : lv_has ls 6 [(0, .ref (aC 0)), (1, .int x1)] := hl
  have L8 : ∀ (out : Int32), (∀ ex : Int32, out = ex → ∀ (H : Heap) (locs : List Loc) (ls : Array Slot), va_P G vwCl [oX0 aC vC, ai cI (aC 8) 64 (vC 8)] H → va_D A [oX0 aC vC, ai cI (aC 8) 64 (vC 8)] → va_S A s.heap H locs → lv_has ls 6 [(2, .int ex)] → W p l e rm_X0_bestTaste s m args below meth c H locs 0 0 Q (F0 m 43 ls [])) → ∀ (n : Nat) (x1 : Int32) (x2 : Int32) (x3 : Int32) (x4 : Int32), m_X0_bestTaste_L8 vC n x1 x2 x3 x4 = some out → ∀ (H : Heap) (locs : List Loc) (ls : Array Slot), va_P G vwCl [oX0 aC vC, ai cI (aC 8) 64 (vC 8)] H → va_D A [oX0 aC vC, ai cI (aC 8) 64 (vC 8)] → va_S A s.heap H locs → lv_has ls 6 [(0, .ref (aC 0)), (1, .int x1), (2, .int x2), (3, .int x3), (4, .int x4)] → W p l e rm_X0_bestTaste s m args below meth c H locs 0 0 Q (F0 m 8 ls []) := by
    intro out hKx
    have j37 : ∀ (rc : Int32 → Int32 → Int32 → Int32 → Option (Int32)), (∀ (x1 : Int32) (x2 : Int32) (x3 : Int32) (x4 : Int32), rc x1 x2 x3 x4 = some out → ∀ (H : Heap) (locs : List Loc) (ls : Array Slot), va_P G vwCl [oX0 aC vC, ai cI (aC 8) 64 (vC 8)] H → va_D A [oX0 aC vC, ai cI (aC 8) 64 (vC 8)] → va_S A s.heap H locs → lv_has ls 6 [(0, .ref (aC 0)), (1, .int x1), (2, .int x2), (3, .int x3), (4, .int x4)] → W p l e rm_X0_bestTaste s m args below meth c H locs 0 0 Q (F0 m 8 ls [])) → ∀ (x1 : Int32) (x2 : Int32) (x3 : Int32) (x4 : Int32), m_X0_bestTaste_j37 vC rc x1 x2 x3 x4 = some out → ∀ (H : Heap) (locs : List Loc) (ls : Array Slot), va_P G vwCl [oX0 aC vC, ai cI (aC 8) 64 (vC 8)] H → va_D A [oX0 aC vC, ai cI (aC 8) 64 (vC 8)] → va_S A s.heap H locs → lv_has ls 6 [(0, .ref (aC 0)), (1, .int x1), (2, .int x2), (3, .int x3), (4, .int x4)] → W p l e rm_X0_bestTaste s m args below meth c H locs 0 0 Q (F0 m 37 ls []) := by
      intro rc hrc x1 x2 x3 x4 h H locs ls hP hD hS hl
      unfold m_X0_bestTaste_j37 at h
      refine lv_iinc (v := (x4 + (1 : Int32))) (lv' := [(4, .int (x4 + (1 : Int32))), (0, .ref (aC 0)), (1, .int x1), (2, .int x2), (3, .int x3)]) hx hb dX0_bestTaste_37 hl (k := 4) rfl (congrArg (fun z => x4 + z) k_iconst_1) (by decide) rfl (fun ls hl => ?_)
      refine lv_goto (tgt := 8) hx hb dX0_bestTaste_40 (by decide) ?_
      exact hrc x1 x2 x3 (x4 + (1 : Int32)) h _ _ _ hP hD hS (lv_sub hl [1, 2, 3, 4, 0] rfl)
    intro n
    induction n with
    | zero => intro x1 x2 x3 x4 h; exact nomatch (show (none : Option (Int32)) = some out from h)
    | succ n hrc =>
      intro x1 x2 x3 x4 h H locs ls hP hD hS hl
      have h : m_X0_bestTaste_L8B vC (m_X0_bestTaste_L8 vC n) x1 x2 x3 x4 = some out := h
      generalize m_X0_bestTaste_L8 vC n = rc at h hrc
      unfold m_X0_bestTaste_L8B at h
      refine lv_iload hx hb dX0_bestTaste_8 (lv_at hl 4 rfl) ?_
      refine lv_iload_n hx hb dX0_bestTaste_10 rfl (lv_at hl 1 rfl) ?_
      refine lv_icmp_ge (tgt := 43) hx hb dX0_bestTaste_11 (by decide) (fun c11 => ?_) (fun c11 => ?_)
      · have h := (if_pos c11).symm.trans h
        exact hKx _ (Option.some.inj h).symm _ _ _ hP hD hS (lv_sub hl [2] rfl)
      · have h := (if_neg c11).symm.trans h
        refine lv_aload_n hx hb dX0_bestTaste_14 rfl (lv_at hl 0 rfl) ?_
        refine lv_iload hx hb dX0_bestTaste_15 (lv_at hl 4 rfl) ?_
        obtain ⟨o17, ho17, h⟩ := bnd_some h
        refine call_V0 (As := [.int x4]) (rest := []) ⟨hx, hb, hml, hown, hts⟩ (c_X0_cupsOn l G cI cZ aC vC x4 o17 ho17) (cwV 1 hts gX0_bestTaste_X0_cupsOn rfl rfl rfl hdV_X0_cupsOn ⟨Nat.le_of_ble_eq_true rfl, Nat.le_of_ble_eq_true rfl⟩) hEN hA hP hD hS [0, 1] rfl (by decide) 0 rfl rfl rfl hl.1 rfl (Nat.le_of_ble_eq_true rfl) dX0_bestTaste_17 ⟨Nat.le_of_ble_eq_true rfl, Nat.le_of_ble_eq_true rfl⟩ (fun H locs hP hS => ?_)
        obtain ⟨o20, ho20, h⟩ := bnd_some h
        refine call_S0 (As := [.int o17]) (rest := []) ⟨hx, hb, hml, hown, hts⟩ (c_J6_bitCount_0f7a4 l G cI cZ  o17 o20 ho20) (va_cwS 1 hts gX0_bestTaste_J6_bitCount_0f7a4 rfl rfl rfl hdS_J6_bitCount_0f7a4 ⟨Nat.le_of_ble_eq_true rfl, Nat.le_of_ble_eq_true rfl⟩) hEN hA hP hD hS [] rfl (by decide) rfl hl.1 rfl (Nat.le_of_ble_eq_true rfl) dX0_bestTaste_20 ⟨Nat.le_of_ble_eq_true rfl, Nat.le_of_ble_eq_true rfl⟩ (fun H locs hP hS => ?_)
        refine lv_istore (lv' := [(5, .int o20), (0, .ref (aC 0)), (1, .int x1), (2, .int x2), (3, .int x3), (4, .int x4)]) hx hb dX0_bestTaste_23 hl (by decide) rfl (fun ls hl => ?_)
        refine lv_iload hx hb dX0_bestTaste_25 (lv_at hl 0 rfl) ?_
        refine lv_iload_n hx hb dX0_bestTaste_27 rfl (lv_at hl 4 rfl) ?_
        refine lv_icmp_le (tgt := 37) hx hb dX0_bestTaste_28 (by decide) (fun c28 => ?_) (fun c28 => ?_)
        · have h := (if_pos c28).symm.trans h
          exact j37 rc hrc x1 x2 x3 x4 h _ _ _ hP hD hS (lv_sub hl [1, 2, 3, 4, 5] rfl)
        · have h := (if_neg c28).symm.trans h
          refine lv_iload hx hb dX0_bestTaste_31 (lv_at hl 0 rfl) ?_
          refine lv_istore_n (lv' := [(3, .int o20), (5, .int o20), (0, .ref (aC 0)), (1, .int x1), (2, .int x2), (4, .int x4)]) hx hb dX0_bestTaste_33 rfl hl (by decide) rfl (fun ls hl => ?_)
          refine lv_iload hx hb dX0_bestTaste_34 (lv_at hl 5 rfl) ?_
          refine lv_istore_n (lv' := [(2, .int x4), (3, .int o20), (5, .int o20), (0, .ref (aC 0)), (1, .int x1), (4, .int x4)]) hx hb dX0_bestTaste_36 rfl hl (by decide) rfl (fun ls hl => ?_)
          exact j37 rc hrc x1 x4 o20 x4 h _ _ _ hP hD hS (lv_sub hl [3, 4, 0, 1, 5] rfl)
  unfold m_X0_bestTaste at h
  refine lv_bipush (v := (-9 : Int32)) hx hb dX0_bestTaste_0 k_bipush_n9 ?_
  refine lv_istore_n (lv' := [(2, .int (-9 : Int32)), (0, .ref (aC 0)), (1, .int x1)]) hx hb dX0_bestTaste_2 rfl hl (by decide) rfl (fun ls hl => ?_)
  refine lv_iconst (v := (1 : Int32)) hx hb dX0_bestTaste_3 k_iconst_1 ?_
  refine lv_istore_n (lv' := [(3, .int (1 : Int32)), (2, .int (-9 : Int32)), (0, .ref (aC 0)), (1, .int x1)]) hx hb dX0_bestTaste_4 rfl hl (by decide) rfl (fun ls hl => ?_)
  refine lv_iconst (v := (0 : Int32)) hx hb dX0_bestTaste_5 k_iconst_0 ?_
  refine lv_istore (lv' := [(4, .int (0 : Int32)), (3, .int (1 : Int32)), (2, .int (-9 : Int32)), (0, .ref (aC 0)), (1, .int x1)]) hx hb dX0_bestTaste_6 hl (by decide) rfl (fun ls hl => ?_)
  obtain ⟨o8_1, ho8_1, h⟩ := bnd_some h
  refine L8 o8_1 (fun o8_1e er H locs ls hP hD hS hl => ?_) FU x1 (-9 : Int32) (1 : Int32) (0 : Int32) ho8_1 _ _ _ hP hD hS (lv_sub hl [3, 4, 2, 1, 0] rfl)
  subst er
  refine lv_iload_n hx hb dX0_bestTaste_43 rfl (lv_at hl 0 rfl) ?_
  have hres := Option.some.inj h
  subst hres
  exact hRet 44 _ _ _ hP hD hS dX0_bestTaste_44
