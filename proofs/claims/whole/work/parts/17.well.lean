abbrev rm_X5_type : Room := { frames := 1, cells := 0, slots := 0, locals := 22 }
theorem fi_X5_type_X5 : ∀ w ∈ wsX50, w ∈ wsX5_type := fun _ h => List.mem_cons_of_mem _ (List.mem_append_right _ h)
theorem hdV_X5_type : yX5_type.cls = RX5 ∧ yX5_type.cls ≠ "java/lang/invoke/MethodHandle" ∧ yX5_type.cls ≠ "java/lang/invoke/VarHandle" ∧ (parseMethodDescriptor yX5_type.desc).map (fun d => d.parameters.length) = some 1 := by decide +kernel
set_option maxRecDepth 100000 in
set_option maxHeartbeats 4000000 in
theorem c_X5_type (l : Launch) (G : va_G) (cI cZ : ClassId) (aX : Nat → Nat) (aR : Nat → Nat) (aY : Nat → Nat) (aC : Nat → Nat) (aW : Nat → Nat) (aD : Nat → Nat) (aS : Nat → Nat) (aI : Nat → Nat) (aJ : Nat → Nat) (vT : Int64) (vX : Ob) (x1 : Int32) (res : Int32 × Ob) (h : m_X5_type vX x1 = some res) : Ct l yX5_type wsX5_type rm_X5_type G cI cZ [.ref (aX 0), .int x1] [oX5 aX aW aD aR aS aI aJ aY aC vX vT, ai cI (aX 1) 200 (vX 1)] (some (.int res.1)) [oX5 aX aW aD aR aS aI aJ aY aC res.2 vT, ai cI (aX 1) 200 (res.2 1)] := by
  refine Ct.of_i (maxL := 2) (by decide) rfl (Nat.le_of_ble_eq_true rfl) ?_
  intro p e s m below meth c args hx hb hml hown hts A hA hEN hP hD hS Q hRet ls hl
  have hown : s.vm.findClass RX5 = some m.cls := hown
  have hl : lv_has ls 2 [(0, .ref (aX 0)), (1, .int x1)] := hl
  unfold m_X5_type at h
  refine lv_iload_n hx hb dX5_type_0 rfl (lv_at hl 1 rfl) ?_
  refine lv_iconst (v := (0 : Int32)) hx hb dX5_type_1 k_iconst_0 ?_
  refine lv_sipush (v := (255 : Int32)) hx hb dX5_type_2 k_sipush_255 ?_
  obtain ⟨o5, ho5, h⟩ := bnd_some h
  refine call_S0 (As := [.int x1, .int (0 : Int32), .int (255 : Int32)]) (rest := []) ⟨hx, hb, hml, hown, hts⟩ (c_X5_isWithin l G cI cZ  x1 (0 : Int32) (255 : Int32) o5 ho5) (va_cwS 3 hts gX5_type_X5_isWithin rfl rfl rfl hdS_X5_isWithin ⟨Nat.le_of_ble_eq_true rfl, Nat.le_of_ble_eq_true rfl⟩) hEN hA hP hD hS [] rfl (by decide) rfl hl.1 rfl (Nat.le_of_ble_eq_true rfl) dX5_type_5 ⟨Nat.le_of_ble_eq_true rfl, Nat.le_of_ble_eq_true rfl⟩ (fun H locs hP hS => ?_)
  refine lv_if_ne (tgt := 13) hx hb dX5_type_8 (by decide) (fun c8 => ?_) (fun c8 => ?_)
  · have h := (if_neg c8).symm.trans h
    refine lv_aload_n hx hb dX5_type_13 rfl (lv_at hl 0 rfl) ?_
    refine va_get (D := G) (ci := 5) (v := .int (vX 0 1)) (C := RX5) (T := TX5) (N := 11) hx hb hts fi_X5_type_X5 hown hEN.1 hP 0 rfl rfl 1 (by decide) (hts (.fieldLink RX5 13 "HourWell" "bytes" "I") (List.mem_of_getElem? (i := 1) rfl)) (fun _ h9 => h9) rfl dX5_type_14 ?_
    refine lv_if_lt (tgt := 32) hx hb dX5_type_17 (by decide) (fun c17 => ?_) (fun c17 => ?_)
    · have h := (if_pos c17).symm.trans h
      refine lv_bipush (v := (-3 : Int32)) hx hb dX5_type_32 k_bipush_n3 ?_
      have hres := Option.some.inj h
      subst hres
      exact hRet 34 _ _ _ hP hD hS dX5_type_34
    · have h := (if_neg c17).symm.trans h
      refine lv_aload_n hx hb dX5_type_20 rfl (lv_at hl 0 rfl) ?_
      refine va_get (D := G) (ci := 5) (v := .int (vX 0 1)) (C := RX5) (T := TX5) (N := 11) hx hb hts fi_X5_type_X5 hown hEN.1 hP 0 rfl rfl 1 (by decide) (hts (.fieldLink RX5 13 "HourWell" "bytes" "I") (List.mem_of_getElem? (i := 1) rfl)) (fun _ h9 => h9) rfl dX5_type_21 ?_
      refine lv_aload_n hx hb dX5_type_24 rfl (lv_at hl 0 rfl) ?_
      refine va_get (D := G) (ci := 5) (v := .ref (aX 1)) (C := RX5) (T := TX5) (N := 11) hx hb hts fi_X5_type_X5 hown hEN.1 hP 0 rfl rfl 0 (by decide) (hts (.fieldLink RX5 9 "HourWell" "text" "[I") (List.mem_of_getElem? (i := 2) rfl)) (fun _ h9 => h9) rfl dX5_type_25 ?_
      refine va_alen (v := (200 : Int32)) hx hb hEN.1 hP 1 0 rfl rfl rfl dX5_type_28 ?_
      refine lv_icmp_lt (tgt := 35) hx hb dX5_type_29 (by decide) (fun c29 => ?_) (fun c29 => ?_)
      · have h := (if_pos c29).symm.trans h
        refine lv_aload_n hx hb dX5_type_35 rfl (lv_at hl 0 rfl) ?_
        refine va_get (D := G) (ci := 5) (v := .ref (aX 1)) (C := RX5) (T := TX5) (N := 11) hx hb hts fi_X5_type_X5 hown hEN.1 hP 0 rfl rfl 0 (by decide) (hts (.fieldLink RX5 9 "HourWell" "text" "[I") (List.mem_of_getElem? (i := 2) rfl)) (fun _ h9 => h9) rfl dX5_type_36 ?_
        refine lv_aload_n hx hb dX5_type_39 rfl (lv_at hl 0 rfl) ?_
        refine va_get (D := G) (ci := 5) (v := .int (vX 0 1)) (C := RX5) (T := TX5) (N := 11) hx hb hts fi_X5_type_X5 hown hEN.1 hP 0 rfl rfl 1 (by decide) (hts (.fieldLink RX5 13 "HourWell" "bytes" "I") (List.mem_of_getElem? (i := 1) rfl)) (fun _ h9 => h9) rfl dX5_type_40 ?_
        refine lv_iload_n hx hb dX5_type_43 rfl (lv_at hl 1 rfl) ?_
        obtain ⟨hg44, h⟩ := grd_some h
        refine va_iast (f := (vX 1)) hx hb hEN.1 hP hD hS 1 0 rfl rfl (inb_in hg44) dX5_type_44 (fun H locs hP hD hS => ?_)
        have hP : va_P G vwCl [oX5 aX aW aD aR aS aI aJ aY aC vX vT, ai cI (aX 1) 200 (upd (vX 1) (Int32.toNatClampNeg (vX 0 1)) x1)] H := hP
        have hD : va_D A [oX5 aX aW aD aR aS aI aJ aY aC vX vT, ai cI (aX 1) 200 (upd (vX 1) (Int32.toNatClampNeg (vX 0 1)) x1)] := hD
        refine lv_aload_n hx hb dX5_type_45 rfl (lv_at hl 0 rfl) ?_
        refine lv_dup hx hb dX5_type_46 rfl ?_
        refine va_get (D := G) (ci := 5) (v := .int (vX 0 1)) (C := RX5) (T := TX5) (N := 11) hx hb hts fi_X5_type_X5 hown hEN.1 hP 0 rfl rfl 1 (by decide) (hts (.fieldLink RX5 13 "HourWell" "bytes" "I") (List.mem_of_getElem? (i := 1) rfl)) (fun _ h9 => h9) rfl dX5_type_47 ?_
        refine lv_iconst (v := (1 : Int32)) hx hb dX5_type_50 k_iconst_1 ?_
        refine lv_iadd hx hb dX5_type_51 ?_
        refine va_put (D := G) (ci := 5) (v := .int ((vX 0 1) + (1 : Int32))) (ty := .int) (C := RX5) (T := TX5) (N := 11) hx hb hts fi_X5_type_X5 tyX5 tyX5_ok nmX5 hown hEN.1 hP hD hS 0 rfl rfl 1 (by decide) (hts (.fieldLink RX5 13 "HourWell" "bytes" "I") (List.mem_of_getElem? (i := 1) rfl)) (fun _ h9 => h9) rfl (by decide +kernel) rfl rfl (Nat.le_of_ble_eq_true rfl) dX5_type_52 (fun H locs hP hD hS => ?_)
        have hP : va_P G vwCl [oX5 aX aW aD aR aS aI aJ aY aC (st vX 0 1 ((vX 0 1) + (1 : Int32))) vT, ai cI (aX 1) 200 (upd (vX 1) (Int32.toNatClampNeg (vX 0 1)) x1)] H := hP
        have hD : va_D A [oX5 aX aW aD aR aS aI aJ aY aC (st vX 0 1 ((vX 0 1) + (1 : Int32))) vT, ai cI (aX 1) 200 (upd (vX 1) (Int32.toNatClampNeg (vX 0 1)) x1)] := hD
        refine lv_aload_n hx hb dX5_type_55 rfl (lv_at hl 0 rfl) ?_
        refine va_get (D := G) (ci := 5) (v := .int ((vX 0 1) + (1 : Int32))) (C := RX5) (T := TX5) (N := 11) hx hb hts fi_X5_type_X5 hown hEN.1 hP 0 rfl rfl 1 (by decide) (hts (.fieldLink RX5 13 "HourWell" "bytes" "I") (List.mem_of_getElem? (i := 1) rfl)) (fun _ h9 => h9) rfl dX5_type_56 ?_
        have hres := Option.some.inj h
        subst hres
        exact hRet 59 _ _ _ hP hD hS dX5_type_59
      · have h := (if_neg c29).symm.trans h
        refine lv_bipush (v := (-3 : Int32)) hx hb dX5_type_32 k_bipush_n3 ?_
        have hres := Option.some.inj h
        subst hres
        exact hRet 34 _ _ _ hP hD hS dX5_type_34
  · have h := (if_pos c8).symm.trans h
    refine lv_iconst (v := (-1 : Int32)) hx hb dX5_type_11 k_iconst_n1 ?_
    have hres := Option.some.inj h
    subst hres
    exact hRet 12 _ _ _ hP hD hS dX5_type_12
abbrev rm_X5_clear : Room := { frames := 0, cells := 0, slots := 0, locals := 0 }
theorem fi_X5_clear_X5 : ∀ w ∈ wsX50, w ∈ wsX5_clear := fun _ h => List.mem_cons_of_mem _ (List.mem_append_right _ h)
theorem hdV_X5_clear : yX5_clear.cls = RX5 ∧ yX5_clear.cls ≠ "java/lang/invoke/MethodHandle" ∧ yX5_clear.cls ≠ "java/lang/invoke/VarHandle" ∧ (parseMethodDescriptor yX5_clear.desc).map (fun d => d.parameters.length) = some 0 := by decide +kernel
set_option maxRecDepth 100000 in
set_option maxHeartbeats 4000000 in
theorem c_X5_clear (l : Launch) (G : va_G) (cI cZ : ClassId) (aX : Nat → Nat) (aR : Nat → Nat) (aY : Nat → Nat) (aC : Nat → Nat) (aW : Nat → Nat) (aD : Nat → Nat) (aS : Nat → Nat) (aI : Nat → Nat) (aJ : Nat → Nat) (vT : Int64) (vX : Ob)  (res : Int32 × Ob) (h : m_X5_clear vX  = some res) : Ct l yX5_clear wsX5_clear rm_X5_clear G cI cZ [.ref (aX 0)] [oX5 aX aW aD aR aS aI aJ aY aC vX vT, ai cI (aX 1) 200 (vX 1)] (some (.int res.1)) [oX5 aX aW aD aR aS aI aJ aY aC res.2 vT, ai cI (aX 1) 200 (res.2 1)] := by
  refine Ct.of_i (maxL := 2) (by decide) rfl (Nat.le_of_ble_eq_true rfl) ?_
  intro p e s m below meth c args hx hb hml hown hts A hA hEN hP hD hS Q hRet ls hl
  have hown : s.vm.findClass RX5 = some m.cls := hown
  have hl : lv_has ls 2 [(0, .ref (aX 0))] := hl
  unfold m_X5_clear at h
  refine lv_aload_n hx hb dX5_clear_0 rfl (lv_at hl 0 rfl) ?_
  refine va_get (D := G) (ci := 5) (v := .int (vX 0 1)) (C := RX5) (T := TX5) (N := 11) hx hb hts fi_X5_clear_X5 hown hEN.1 hP 0 rfl rfl 1 (by decide) (hts (.fieldLink RX5 13 "HourWell" "bytes" "I") (List.mem_of_getElem? (i := 1) rfl)) (fun _ h9 => h9) rfl dX5_clear_1 ?_
  refine lv_istore_n (lv' := [(1, .int (vX 0 1)), (0, .ref (aX 0))]) hx hb dX5_clear_4 rfl hl (by decide) rfl (fun ls hl => ?_)
  refine lv_aload_n hx hb dX5_clear_5 rfl (lv_at hl 1 rfl) ?_
  refine lv_iconst (v := (0 : Int32)) hx hb dX5_clear_6 k_iconst_0 ?_
  refine va_put (D := G) (ci := 5) (v := .int (0 : Int32)) (ty := .int) (C := RX5) (T := TX5) (N := 11) hx hb hts fi_X5_clear_X5 tyX5 tyX5_ok nmX5 hown hEN.1 hP hD hS 0 rfl rfl 1 (by decide) (hts (.fieldLink RX5 13 "HourWell" "bytes" "I") (List.mem_of_getElem? (i := 1) rfl)) (fun _ h9 => h9) rfl (by decide +kernel) rfl rfl (Nat.le_of_ble_eq_true rfl) dX5_clear_7 (fun H locs hP hD hS => ?_)
  have hP : va_P G vwCl [oX5 aX aW aD aR aS aI aJ aY aC (st vX 0 1 (0 : Int32)) vT, ai cI (aX 1) 200 (vX 1)] H := hP
  have hD : va_D A [oX5 aX aW aD aR aS aI aJ aY aC (st vX 0 1 (0 : Int32)) vT, ai cI (aX 1) 200 (vX 1)] := hD
  refine lv_iload_n hx hb dX5_clear_10 rfl (lv_at hl 0 rfl) ?_
  have hres := Option.some.inj h
  subst hres
  exact hRet 11 _ _ _ hP hD hS dX5_clear_11
abbrev rm_X5_tale : Room := { frames := 6, cells := 0, slots := 0, locals := 128 }
theorem fi_X5_tale_X5 : ∀ w ∈ wsX50, w ∈ wsX5_tale := fun _ h => List.mem_cons_of_mem _ (List.mem_append_left _ (List.mem_append_left _ (List.mem_append_left _ (List.mem_append_left _ (List.mem_append_left _ (List.mem_append_right _ h))))))
theorem fi_X5_tale_X2 : ∀ w ∈ wsX20, w ∈ wsX5_tale := fun _ h => List.mem_cons_of_mem _ (List.mem_append_left _ (List.mem_append_left _ (List.mem_append_left _ (List.mem_append_left _ (List.mem_append_right _ h)))))
theorem fi_X5_tale_X1 : ∀ w ∈ wsX10, w ∈ wsX5_tale := fun _ h => List.mem_cons_of_mem _ (List.mem_append_left _ (List.mem_append_left _ (List.mem_append_left _ (List.mem_append_right _ h))))
theorem fi_X5_tale_X4 : ∀ w ∈ wsX40, w ∈ wsX5_tale := fun _ h => List.mem_cons_of_mem _ (List.mem_append_left _ (List.mem_append_left _ (List.mem_append_right _ h)))
theorem fi_X5_tale_X3 : ∀ w ∈ wsX30, w ∈ wsX5_tale := fun _ h => List.mem_cons_of_mem _ (List.mem_append_left _ (List.mem_append_right _ h))
theorem fi_X5_tale_X0 : ∀ w ∈ wsX00, w ∈ wsX5_tale := fun _ h => List.mem_cons_of_mem _ (List.mem_append_right _ h)
theorem hdV_X5_tale : yX5_tale.cls = RX5 ∧ yX5_tale.cls ≠ "java/lang/invoke/MethodHandle" ∧ yX5_tale.cls ≠ "java/lang/invoke/VarHandle" ∧ (parseMethodDescriptor yX5_tale.desc).map (fun d => d.parameters.length) = some 0 := by decide +kernel
set_option maxRecDepth 100000 in
set_option maxHeartbeats 4000000 in
theorem c_X5_tale (l : Launch) (G : va_G) (cI cZ : ClassId) (aX : Nat → Nat) (aR : Nat → Nat) (aY : Nat → Nat) (aC : Nat → Nat) (aW : Nat → Nat) (aD : Nat → Nat) (aS : Nat → Nat) (aI : Nat → Nat) (aJ : Nat → Nat) (vT : Int64) (vX : Ob) (vR : Ob) (vY : Ob) (vC : Ob) (vW : Ob) (vD : Ob) (vS : Ob) (vI : Ob) (vJ : Ob)  (res : Int32 × Ob × Ob × Ob × Ob × Ob × Ob × Ob × Ob × Ob) (h : m_X5_tale vX vR vY vC vW vD vS vI vJ  = some res) : Ct l yX5_tale wsX5_tale rm_X5_tale G cI cZ [.ref (aX 0)] [oX5 aX aW aD aR aS aI aJ aY aC vX vT, ai cI (aX 1) 200 (vX 1), oX1 aR (aX 1) aD vR, oX3 aY aW aS vY, ai cI (aY 3) 427 (vY 3), ai cI (aY 4) 7 (vY 4), ai cI (aY 5) 125 (vY 5), oX0 aC vC, ai cI (aC 4) 6 (vC 4), ai cI (aC 5) 6 (vC 5), ai cI (aC 6) 6 (vC 6), ai cI (aC 7) 6 (vC 7), ai cI (aC 8) 64 (vC 8), oX4 aW vW, ai cI (aW 5) 7 (vW 5), ai cI (aW 6) 7 (vW 6), ai cI (aW 7) 7 (vW 7), ai cI (aW 8) 9 (vW 8), ai cI (aW 9) 9 (vW 9), ai cI (aW 10) 9 (vW 10), ai cI (aW 11) 6 (vW 11), ai cI (aW 12) 6 (vW 12), ai cI (aW 13) 6 (vW 13), oX4 aD vD, ai cI (aD 5) 7 (vD 5), ai cI (aD 6) 7 (vD 6), ai cI (aD 7) 7 (vD 7), ai cI (aD 8) 9 (vD 8), ai cI (aD 9) 9 (vD 9), ai cI (aD 10) 9 (vD 10), ai cI (aD 11) 6 (vD 11), ai cI (aD 12) 6 (vD 12), ai cI (aD 13) 6 (vD 13), oX2 aS vS, ai cI (aS 6) 12 (vS 6), ai cI (aS 7) 12 (vS 7), ai cI (aS 8) 12 (vS 8), oX2 aI vI, ai cI (aI 6) 12 (vI 6), ai cI (aI 7) 12 (vI 7), ai cI (aI 8) 12 (vI 8), oX2 aJ vJ, ai cI (aJ 6) 12 (vJ 6), ai cI (aJ 7) 12 (vJ 7), ai cI (aJ 8) 12 (vJ 8)] (some (.int res.1)) [oX5 aX aW aD aR aS aI aJ aY aC res.2.1 vT, ai cI (aX 1) 200 (res.2.1 1), oX1 aR (aX 1) aD res.2.2.1, oX3 aY aW aS res.2.2.2.1, ai cI (aY 3) 427 (res.2.2.2.1 3), ai cI (aY 4) 7 (res.2.2.2.1 4), ai cI (aY 5) 125 (res.2.2.2.1 5), oX0 aC res.2.2.2.2.1, ai cI (aC 4) 6 (res.2.2.2.2.1 4), ai cI (aC 5) 6 (res.2.2.2.2.1 5), ai cI (aC 6) 6 (res.2.2.2.2.1 6), ai cI (aC 7) 6 (res.2.2.2.2.1 7), ai cI (aC 8) 64 (res.2.2.2.2.1 8), oX4 aW res.2.2.2.2.2.1, ai cI (aW 5) 7 (res.2.2.2.2.2.1 5), ai cI (aW 6) 7 (res.2.2.2.2.2.1 6), ai cI (aW 7) 7 (res.2.2.2.2.2.1 7), ai cI (aW 8) 9 (res.2.2.2.2.2.1 8), ai cI (aW 9) 9 (res.2.2.2.2.2.1 9), ai cI (aW 10) 9 (res.2.2.2.2.2.1 10), ai cI (aW 11) 6 (res.2.2.2.2.2.1 11), ai cI (aW 12) 6 (res.2.2.2.2.2.1 12), ai cI (aW 13) 6 (res.2.2.2.2.2.1 13), oX4 aD res.2.2.2.2.2.2.1, ai cI (aD 5) 7 (res.2.2.2.2.2.2.1 5), ai cI (aD 6) 7 (res.2.2.2.2.2.2.1 6), ai cI (aD 7) 7 (res.2.2.2.2.2.2.1 7), ai cI (aD 8) 9 (res.2.2.2.2.2.2.1 8), ai cI (aD 9) 9 (res.2.2.2.2.2.2.1 9), ai cI (aD 10) 9 (res.2.2.2.2.2.2.1 10), ai cI (aD 11) 6 (res.2.2.2.2.2.2.1 11), ai cI (aD 12) 6 (res.2.2.2.2.2.2.1 12), ai cI (aD 13) 6 (res.2.2.2.2.2.2.1 13), oX2 aS res.2.2.2.2.2.2.2.1, ai cI (aS 6) 12 (res.2.2.2.2.2.2.2.1 6), ai cI (aS 7) 12 (res.2.2.2.2.2.2.2.1 7), ai cI (aS 8) 12 (res.2.2.2.2.2.2.2.1 8), oX2 aI res.2.2.2.2.2.2.2.2.1, ai cI (aI 6) 12 (res.2.2.2.2.2.2.2.2.1 6), ai cI (aI 7) 12 (res.2.2.2.2.2.2.2.2.1 7), ai cI (aI 8) 12 (res.2.2.2.2.2.2.2.2.1 8), oX2 aJ res.2.2.2.2.2.2.2.2.2, ai cI (aJ 6) 12 (res.2.2.2.2.2.2.2.2.2 6), ai cI (aJ 7) 12 (res.2.2.2.2.2.2.2.2.2 7), ai cI (aJ 8) 12 (res.2.2.2.2.2.2.2.2.2 8)] := by
  refine Ct.of_i (maxL := 2) (by decide) rfl (Nat.le_of_ble_eq_true rfl) ?_
  intro p e s m below meth c args hx hb hml hown hts A hA hEN hP hD hS Q hRet ls hl
  have hown : s.vm.findClass RX5 = some m.cls := hown
  have hl : lv_has ls 2 [(0, .ref (aX 0))] := hl
  unfold m_X5_tale at h
  refine lv_aload_n hx hb dX5_tale_0 rfl (lv_at hl 0 rfl) ?_
  refine va_get (D := G) (ci := 5) (v := .ref (aR 0)) (C := RX5) (T := TX5) (N := 11) hx hb hts fi_X5_tale_X5 hown hEN.1 hP 0 rfl rfl 4 (by decide) (hts (.fieldLink RX5 32 "HourWell" "reader" "LHourWell$Reader;") (List.mem_of_getElem? (i := 1) rfl)) (fun _ h9 => h9) rfl dX5_tale_1 ?_
  refine lv_aload_n hx hb dX5_tale_4 rfl (lv_at hl 0 rfl) ?_
  refine va_get (D := G) (ci := 5) (v := .int (vX 0 1)) (C := RX5) (T := TX5) (N := 11) hx hb hts fi_X5_tale_X5 hown hEN.1 hP 0 rfl rfl 1 (by decide) (hts (.fieldLink RX5 13 "HourWell" "bytes" "I") (List.mem_of_getElem? (i := 2) rfl)) (fun _ h9 => h9) rfl dX5_tale_5 ?_
  obtain ⟨o8, ho8, h⟩ := bnd_some h
  refine call_VJ (wr := [oX5 aX aW aD aR aS aI aJ aY aC vX vT, oX3 aY aW aS vY, ai cI (aY 3) 427 (vY 3), ai cI (aY 4) 7 (vY 4), ai cI (aY 5) 125 (vY 5), oX0 aC vC, ai cI (aC 4) 6 (vC 4), ai cI (aC 5) 6 (vC 5), ai cI (aC 6) 6 (vC 6), ai cI (aC 7) 6 (vC 7), ai cI (aC 8) 64 (vC 8), oX4 aW vW, ai cI (aW 5) 7 (vW 5), ai cI (aW 6) 7 (vW 6), ai cI (aW 7) 7 (vW 7), ai cI (aW 8) 9 (vW 8), ai cI (aW 9) 9 (vW 9), ai cI (aW 10) 9 (vW 10), ai cI (aW 11) 6 (vW 11), ai cI (aW 12) 6 (vW 12), ai cI (aW 13) 6 (vW 13), oX2 aS vS, ai cI (aS 6) 12 (vS 6), ai cI (aS 7) 12 (vS 7), ai cI (aS 8) 12 (vS 8), oX2 aI vI, ai cI (aI 6) 12 (vI 6), ai cI (aI 7) 12 (vI 7), ai cI (aI 8) 12 (vI 8), oX2 aJ vJ, ai cI (aJ 6) 12 (vJ 6), ai cI (aJ 7) 12 (vJ 7), ai cI (aJ 8) 12 (vJ 8)]) (As := [.int (vX 0 1)]) (rest := []) ⟨hx, hb, hml, hown, hts⟩ (c_X1_readTale l G cI cZ aR aD (aX 1) vR vD (vX 1) (vX 0 1) o8 ho8) (cwV 1 hts gX5_tale_X1_readTale rfl rfl rfl hdV_X1_readTale ⟨Nat.le_of_ble_eq_true rfl, Nat.le_of_ble_eq_true rfl⟩) hEN hA hP hD hS [2, 23, 24, 25, 26, 27, 28, 29, 30, 31, 32, 1] [0, 3, 4, 5, 6, 7, 8, 9, 10, 11, 12, 13, 14, 15, 16, 17, 18, 19, 20, 21, 22, 33, 34, 35, 36, 37, 38, 39, 40, 41, 42, 43, 44] rfl (by decide) rfl (by decide) (by decide) 2 rfl rfl rfl hl.1 rfl (Nat.le_of_ble_eq_true rfl) dX5_tale_8 ⟨Nat.le_of_ble_eq_true rfl, Nat.le_of_ble_eq_true rfl⟩ (fun H locs hP hD hS => ?_)
  have hP : va_P G vwCl [oX5 aX aW aD aR aS aI aJ aY aC vX vT, oX3 aY aW aS vY, ai cI (aY 3) 427 (vY 3), ai cI (aY 4) 7 (vY 4), ai cI (aY 5) 125 (vY 5), oX0 aC vC, ai cI (aC 4) 6 (vC 4), ai cI (aC 5) 6 (vC 5), ai cI (aC 6) 6 (vC 6), ai cI (aC 7) 6 (vC 7), ai cI (aC 8) 64 (vC 8), oX4 aW vW, ai cI (aW 5) 7 (vW 5), ai cI (aW 6) 7 (vW 6), ai cI (aW 7) 7 (vW 7), ai cI (aW 8) 9 (vW 8), ai cI (aW 9) 9 (vW 9), ai cI (aW 10) 9 (vW 10), ai cI (aW 11) 6 (vW 11), ai cI (aW 12) 6 (vW 12), ai cI (aW 13) 6 (vW 13), oX2 aS vS, ai cI (aS 6) 12 (vS 6), ai cI (aS 7) 12 (vS 7), ai cI (aS 8) 12 (vS 8), oX2 aI vI, ai cI (aI 6) 12 (vI 6), ai cI (aI 7) 12 (vI 7), ai cI (aI 8) 12 (vI 8), oX2 aJ vJ, ai cI (aJ 6) 12 (vJ 6), ai cI (aJ 7) 12 (vJ 7), ai cI (aJ 8) 12 (vJ 8), oX1 aR (aX 1) aD o8.2.1, oX4 aD o8.2.2, ai cI (aD 5) 7 (o8.2.2 5), ai cI (aD 6) 7 (o8.2.2 6), ai cI (aD 7) 7 (o8.2.2 7), ai cI (aD 8) 9 (o8.2.2 8), ai cI (aD 9) 9 (o8.2.2 9), ai cI (aD 10) 9 (o8.2.2 10), ai cI (aD 11) 6 (o8.2.2 11), ai cI (aD 12) 6 (o8.2.2 12), ai cI (aD 13) 6 (o8.2.2 13), ai cI (aX 1) 200 (vX 1)] H := hP
  have hD : va_D A [oX5 aX aW aD aR aS aI aJ aY aC vX vT, oX3 aY aW aS vY, ai cI (aY 3) 427 (vY 3), ai cI (aY 4) 7 (vY 4), ai cI (aY 5) 125 (vY 5), oX0 aC vC, ai cI (aC 4) 6 (vC 4), ai cI (aC 5) 6 (vC 5), ai cI (aC 6) 6 (vC 6), ai cI (aC 7) 6 (vC 7), ai cI (aC 8) 64 (vC 8), oX4 aW vW, ai cI (aW 5) 7 (vW 5), ai cI (aW 6) 7 (vW 6), ai cI (aW 7) 7 (vW 7), ai cI (aW 8) 9 (vW 8), ai cI (aW 9) 9 (vW 9), ai cI (aW 10) 9 (vW 10), ai cI (aW 11) 6 (vW 11), ai cI (aW 12) 6 (vW 12), ai cI (aW 13) 6 (vW 13), oX2 aS vS, ai cI (aS 6) 12 (vS 6), ai cI (aS 7) 12 (vS 7), ai cI (aS 8) 12 (vS 8), oX2 aI vI, ai cI (aI 6) 12 (vI 6), ai cI (aI 7) 12 (vI 7), ai cI (aI 8) 12 (vI 8), oX2 aJ vJ, ai cI (aJ 6) 12 (vJ 6), ai cI (aJ 7) 12 (vJ 7), ai cI (aJ 8) 12 (vJ 8), oX1 aR (aX 1) aD o8.2.1, oX4 aD o8.2.2, ai cI (aD 5) 7 (o8.2.2 5), ai cI (aD 6) 7 (o8.2.2 6), ai cI (aD 7) 7 (o8.2.2 7), ai cI (aD 8) 9 (o8.2.2 8), ai cI (aD 9) 9 (o8.2.2 9), ai cI (aD 10) 9 (o8.2.2 10), ai cI (aD 11) 6 (o8.2.2 11), ai cI (aD 12) 6 (o8.2.2 12), ai cI (aD 13) 6 (o8.2.2 13), ai cI (aX 1) 200 (vX 1)] := hD
  refine lv_istore_n (lv' := [(1, .int o8.1), (0, .ref (aX 0))]) hx hb dX5_tale_11 rfl hl (by decide) rfl (fun ls hl => ?_)
  refine lv_iload_n hx hb dX5_tale_12 rfl (lv_at hl 0 rfl) ?_
  refine lv_if_ge (tgt := 18) hx hb dX5_tale_13 (by decide) (fun c13 => ?_) (fun c13 => ?_)
  · have h := (if_pos c13).symm.trans h
    refine lv_aload_n hx hb dX5_tale_18 rfl (lv_at hl 1 rfl) ?_
    refine lv_iconst (v := (0 : Int32)) hx hb dX5_tale_19 k_iconst_0 ?_
    refine va_put (D := G) (ci := 5) (v := .int (0 : Int32)) (ty := .int) (C := RX5) (T := TX5) (N := 11) hx hb hts fi_X5_tale_X5 tyX5 tyX5_ok nmX5 hown hEN.1 hP hD hS 0 rfl rfl 1 (by decide) (hts (.fieldLink RX5 13 "HourWell" "bytes" "I") (List.mem_of_getElem? (i := 2) rfl)) (fun _ h9 => h9) rfl (by decide +kernel) rfl rfl (Nat.le_of_ble_eq_true rfl) dX5_tale_20 (fun H locs hP hD hS => ?_)
    have hP : va_P G vwCl [oX5 aX aW aD aR aS aI aJ aY aC (st vX 0 1 (0 : Int32)) vT, oX3 aY aW aS vY, ai cI (aY 3) 427 (vY 3), ai cI (aY 4) 7 (vY 4), ai cI (aY 5) 125 (vY 5), oX0 aC vC, ai cI (aC 4) 6 (vC 4), ai cI (aC 5) 6 (vC 5), ai cI (aC 6) 6 (vC 6), ai cI (aC 7) 6 (vC 7), ai cI (aC 8) 64 (vC 8), oX4 aW vW, ai cI (aW 5) 7 (vW 5), ai cI (aW 6) 7 (vW 6), ai cI (aW 7) 7 (vW 7), ai cI (aW 8) 9 (vW 8), ai cI (aW 9) 9 (vW 9), ai cI (aW 10) 9 (vW 10), ai cI (aW 11) 6 (vW 11), ai cI (aW 12) 6 (vW 12), ai cI (aW 13) 6 (vW 13), oX2 aS vS, ai cI (aS 6) 12 (vS 6), ai cI (aS 7) 12 (vS 7), ai cI (aS 8) 12 (vS 8), oX2 aI vI, ai cI (aI 6) 12 (vI 6), ai cI (aI 7) 12 (vI 7), ai cI (aI 8) 12 (vI 8), oX2 aJ vJ, ai cI (aJ 6) 12 (vJ 6), ai cI (aJ 7) 12 (vJ 7), ai cI (aJ 8) 12 (vJ 8), oX1 aR (aX 1) aD o8.2.1, oX4 aD o8.2.2, ai cI (aD 5) 7 (o8.2.2 5), ai cI (aD 6) 7 (o8.2.2 6), ai cI (aD 7) 7 (o8.2.2 7), ai cI (aD 8) 9 (o8.2.2 8), ai cI (aD 9) 9 (o8.2.2 9), ai cI (aD 10) 9 (o8.2.2 10), ai cI (aD 11) 6 (o8.2.2 11), ai cI (aD 12) 6 (o8.2.2 12), ai cI (aD 13) 6 (o8.2.2 13), ai cI (aX 1) 200 (vX 1)] H := hP
    have hD : va_D A [oX5 aX aW aD aR aS aI aJ aY aC (st vX 0 1 (0 : Int32)) vT, oX3 aY aW aS vY, ai cI (aY 3) 427 (vY 3), ai cI (aY 4) 7 (vY 4), ai cI (aY 5) 125 (vY 5), oX0 aC vC, ai cI (aC 4) 6 (vC 4), ai cI (aC 5) 6 (vC 5), ai cI (aC 6) 6 (vC 6), ai cI (aC 7) 6 (vC 7), ai cI (aC 8) 64 (vC 8), oX4 aW vW, ai cI (aW 5) 7 (vW 5), ai cI (aW 6) 7 (vW 6), ai cI (aW 7) 7 (vW 7), ai cI (aW 8) 9 (vW 8), ai cI (aW 9) 9 (vW 9), ai cI (aW 10) 9 (vW 10), ai cI (aW 11) 6 (vW 11), ai cI (aW 12) 6 (vW 12), ai cI (aW 13) 6 (vW 13), oX2 aS vS, ai cI (aS 6) 12 (vS 6), ai cI (aS 7) 12 (vS 7), ai cI (aS 8) 12 (vS 8), oX2 aI vI, ai cI (aI 6) 12 (vI 6), ai cI (aI 7) 12 (vI 7), ai cI (aI 8) 12 (vI 8), oX2 aJ vJ, ai cI (aJ 6) 12 (vJ 6), ai cI (aJ 7) 12 (vJ 7), ai cI (aJ 8) 12 (vJ 8), oX1 aR (aX 1) aD o8.2.1, oX4 aD o8.2.2, ai cI (aD 5) 7 (o8.2.2 5), ai cI (aD 6) 7 (o8.2.2 6), ai cI (aD 7) 7 (o8.2.2 7), ai cI (aD 8) 9 (o8.2.2 8), ai cI (aD 9) 9 (o8.2.2 9), ai cI (aD 10) 9 (o8.2.2 10), ai cI (aD 11) 6 (o8.2.2 11), ai cI (aD 12) 6 (o8.2.2 12), ai cI (aD 13) 6 (o8.2.2 13), ai cI (aX 1) 200 (vX 1)] := hD
    refine lv_aload_n hx hb dX5_tale_23 rfl (lv_at hl 1 rfl) ?_
    refine va_get (D := G) (ci := 5) (v := .ref (aW 0)) (C := RX5) (T := TX5) (N := 11) hx hb hts fi_X5_tale_X5 hown hEN.1 hP 0 rfl rfl 2 (by decide) (hts (.fieldLink RX5 20 "HourWell" "world" "LHourWell$World;") (List.mem_of_getElem? (i := 3) rfl)) (fun _ h9 => h9) rfl dX5_tale_24 ?_
    refine lv_aload_n hx hb dX5_tale_27 rfl (lv_at hl 1 rfl) ?_
    refine va_get (D := G) (ci := 5) (v := .ref (aD 0)) (C := RX5) (T := TX5) (N := 11) hx hb hts fi_X5_tale_X5 hown hEN.1 hP 0 rfl rfl 3 (by decide) (hts (.fieldLink RX5 24 "HourWell" "draft" "LHourWell$World;") (List.mem_of_getElem? (i := 4) rfl)) (fun _ h9 => h9) rfl dX5_tale_28 ?_
    obtain ⟨o31, ho31, h⟩ := bnd_some h
    refine call_VJ (wr := [oX5 aX aW aD aR aS aI aJ aY aC (st vX 0 1 (0 : Int32)) vT, oX3 aY aW aS vY, ai cI (aY 3) 427 (vY 3), ai cI (aY 4) 7 (vY 4), ai cI (aY 5) 125 (vY 5), oX0 aC vC, ai cI (aC 4) 6 (vC 4), ai cI (aC 5) 6 (vC 5), ai cI (aC 6) 6 (vC 6), ai cI (aC 7) 6 (vC 7), ai cI (aC 8) 64 (vC 8), oX2 aS vS, ai cI (aS 6) 12 (vS 6), ai cI (aS 7) 12 (vS 7), ai cI (aS 8) 12 (vS 8), oX2 aI vI, ai cI (aI 6) 12 (vI 6), ai cI (aI 7) 12 (vI 7), ai cI (aI 8) 12 (vI 8), oX2 aJ vJ, ai cI (aJ 6) 12 (vJ 6), ai cI (aJ 7) 12 (vJ 7), ai cI (aJ 8) 12 (vJ 8), oX1 aR (aX 1) aD o8.2.1, ai cI (aX 1) 200 (vX 1)]) (As := [.ref (aD 0)]) (rest := []) ⟨hx, hb, hml, hown, hts⟩ (c_X4_becomeLike l G cI cZ aW aD vW o8.2.2 o31 ho31) (cwV 1 hts gX5_tale_X4_becomeLike rfl rfl rfl hdV_X4_becomeLike ⟨Nat.le_of_ble_eq_true rfl, Nat.le_of_ble_eq_true rfl⟩) hEN hA hP hD hS [11, 12, 13, 14, 15, 16, 17, 18, 19, 20, 34, 35, 36, 37, 38, 39, 40, 41, 42, 43] [0, 1, 2, 3, 4, 5, 6, 7, 8, 9, 10, 21, 22, 23, 24, 25, 26, 27, 28, 29, 30, 31, 32, 33, 44] rfl (by decide) rfl (by decide) (by decide) 11 rfl rfl rfl hl.1 rfl (Nat.le_of_ble_eq_true rfl) dX5_tale_31 ⟨Nat.le_of_ble_eq_true rfl, Nat.le_of_ble_eq_true rfl⟩ (fun H locs hP hD hS => ?_)
    have hP : va_P G vwCl [oX5 aX aW aD aR aS aI aJ aY aC (st vX 0 1 (0 : Int32)) vT, oX3 aY aW aS vY, ai cI (aY 3) 427 (vY 3), ai cI (aY 4) 7 (vY 4), ai cI (aY 5) 125 (vY 5), oX0 aC vC, ai cI (aC 4) 6 (vC 4), ai cI (aC 5) 6 (vC 5), ai cI (aC 6) 6 (vC 6), ai cI (aC 7) 6 (vC 7), ai cI (aC 8) 64 (vC 8), oX2 aS vS, ai cI (aS 6) 12 (vS 6), ai cI (aS 7) 12 (vS 7), ai cI (aS 8) 12 (vS 8), oX2 aI vI, ai cI (aI 6) 12 (vI 6), ai cI (aI 7) 12 (vI 7), ai cI (aI 8) 12 (vI 8), oX2 aJ vJ, ai cI (aJ 6) 12 (vJ 6), ai cI (aJ 7) 12 (vJ 7), ai cI (aJ 8) 12 (vJ 8), oX1 aR (aX 1) aD o8.2.1, ai cI (aX 1) 200 (vX 1), oX4 aW o31, ai cI (aW 5) 7 (o31 5), ai cI (aW 6) 7 (o31 6), ai cI (aW 7) 7 (o31 7), ai cI (aW 8) 9 (o31 8), ai cI (aW 9) 9 (o31 9), ai cI (aW 10) 9 (o31 10), ai cI (aW 11) 6 (o31 11), ai cI (aW 12) 6 (o31 12), ai cI (aW 13) 6 (o31 13), oX4 aD o8.2.2, ai cI (aD 5) 7 (o8.2.2 5), ai cI (aD 6) 7 (o8.2.2 6), ai cI (aD 7) 7 (o8.2.2 7), ai cI (aD 8) 9 (o8.2.2 8), ai cI (aD 9) 9 (o8.2.2 9), ai cI (aD 10) 9 (o8.2.2 10), ai cI (aD 11) 6 (o8.2.2 11), ai cI (aD 12) 6 (o8.2.2 12), ai cI (aD 13) 6 (o8.2.2 13)] H := hP
    have hD : va_D A [oX5 aX aW aD aR aS aI aJ aY aC (st vX 0 1 (0 : Int32)) vT, oX3 aY aW aS vY, ai cI (aY 3) 427 (vY 3), ai cI (aY 4) 7 (vY 4), ai cI (aY 5) 125 (vY 5), oX0 aC vC, ai cI (aC 4) 6 (vC 4), ai cI (aC 5) 6 (vC 5), ai cI (aC 6) 6 (vC 6), ai cI (aC 7) 6 (vC 7), ai cI (aC 8) 64 (vC 8), oX2 aS vS, ai cI (aS 6) 12 (vS 6), ai cI (aS 7) 12 (vS 7), ai cI (aS 8) 12 (vS 8), oX2 aI vI, ai cI (aI 6) 12 (vI 6), ai cI (aI 7) 12 (vI 7), ai cI (aI 8) 12 (vI 8), oX2 aJ vJ, ai cI (aJ 6) 12 (vJ 6), ai cI (aJ 7) 12 (vJ 7), ai cI (aJ 8) 12 (vJ 8), oX1 aR (aX 1) aD o8.2.1, ai cI (aX 1) 200 (vX 1), oX4 aW o31, ai cI (aW 5) 7 (o31 5), ai cI (aW 6) 7 (o31 6), ai cI (aW 7) 7 (o31 7), ai cI (aW 8) 9 (o31 8), ai cI (aW 9) 9 (o31 9), ai cI (aW 10) 9 (o31 10), ai cI (aW 11) 6 (o31 11), ai cI (aW 12) 6 (o31 12), ai cI (aW 13) 6 (o31 13), oX4 aD o8.2.2, ai cI (aD 5) 7 (o8.2.2 5), ai cI (aD 6) 7 (o8.2.2 6), ai cI (aD 7) 7 (o8.2.2 7), ai cI (aD 8) 9 (o8.2.2 8), ai cI (aD 9) 9 (o8.2.2 9), ai cI (aD 10) 9 (o8.2.2 10), ai cI (aD 11) 6 (o8.2.2 11), ai cI (aD 12) 6 (o8.2.2 12), ai cI (aD 13) 6 (o8.2.2 13)] := hD
    refine lv_aload_n hx hb dX5_tale_34 rfl (lv_at hl 1 rfl) ?_
    refine va_get (D := G) (ci := 5) (v := .ref (aS 0)) (C := RX5) (T := TX5) (N := 11) hx hb hts fi_X5_tale_X5 hown hEN.1 hP 0 rfl rfl 5 (by decide) (hts (.fieldLink RX5 39 "HourWell" "son" "LHourWell$Son;") (List.mem_of_getElem? (i := 5) rfl)) (fun _ h9 => h9) rfl dX5_tale_35 ?_
    obtain ⟨o38, ho38, h⟩ := bnd_some h
    refine call_VJ (wr := [oX5 aX aW aD aR aS aI aJ aY aC (st vX 0 1 (0 : Int32)) vT, oX3 aY aW aS vY, ai cI (aY 3) 427 (vY 3), ai cI (aY 4) 7 (vY 4), ai cI (aY 5) 125 (vY 5), oX0 aC vC, ai cI (aC 4) 6 (vC 4), ai cI (aC 5) 6 (vC 5), ai cI (aC 6) 6 (vC 6), ai cI (aC 7) 6 (vC 7), ai cI (aC 8) 64 (vC 8), oX2 aI vI, ai cI (aI 6) 12 (vI 6), ai cI (aI 7) 12 (vI 7), ai cI (aI 8) 12 (vI 8), oX2 aJ vJ, ai cI (aJ 6) 12 (vJ 6), ai cI (aJ 7) 12 (vJ 7), ai cI (aJ 8) 12 (vJ 8), oX1 aR (aX 1) aD o8.2.1, ai cI (aX 1) 200 (vX 1), oX4 aW o31, ai cI (aW 5) 7 (o31 5), ai cI (aW 6) 7 (o31 6), ai cI (aW 7) 7 (o31 7), ai cI (aW 8) 9 (o31 8), ai cI (aW 9) 9 (o31 9), ai cI (aW 10) 9 (o31 10), ai cI (aW 11) 6 (o31 11), ai cI (aW 12) 6 (o31 12), ai cI (aW 13) 6 (o31 13), oX4 aD o8.2.2, ai cI (aD 5) 7 (o8.2.2 5), ai cI (aD 6) 7 (o8.2.2 6), ai cI (aD 7) 7 (o8.2.2 7), ai cI (aD 8) 9 (o8.2.2 8), ai cI (aD 9) 9 (o8.2.2 9), ai cI (aD 10) 9 (o8.2.2 10), ai cI (aD 11) 6 (o8.2.2 11), ai cI (aD 12) 6 (o8.2.2 12), ai cI (aD 13) 6 (o8.2.2 13)]) (As := []) (rest := []) ⟨hx, hb, hml, hown, hts⟩ (c_X2_startAnew l G cI cZ aS vS o38 ho38) (cwV 0 hts gX5_tale_X2_startAnew rfl rfl rfl hdV_X2_startAnew ⟨Nat.le_of_ble_eq_true rfl, Nat.le_of_ble_eq_true rfl⟩) hEN hA hP hD hS [11, 12, 13, 14] [0, 1, 2, 3, 4, 5, 6, 7, 8, 9, 10, 15, 16, 17, 18, 19, 20, 21, 22, 23, 24, 25, 26, 27, 28, 29, 30, 31, 32, 33, 34, 35, 36, 37, 38, 39, 40, 41, 42, 43, 44] rfl (by decide) rfl (by decide) (by decide) 11 rfl rfl rfl hl.1 rfl (Nat.le_of_ble_eq_true rfl) dX5_tale_38 ⟨Nat.le_of_ble_eq_true rfl, Nat.le_of_ble_eq_true rfl⟩ (fun H locs hP hD hS => ?_)
    have hP : va_P G vwCl [oX5 aX aW aD aR aS aI aJ aY aC (st vX 0 1 (0 : Int32)) vT, oX3 aY aW aS vY, ai cI (aY 3) 427 (vY 3), ai cI (aY 4) 7 (vY 4), ai cI (aY 5) 125 (vY 5), oX0 aC vC, ai cI (aC 4) 6 (vC 4), ai cI (aC 5) 6 (vC 5), ai cI (aC 6) 6 (vC 6), ai cI (aC 7) 6 (vC 7), ai cI (aC 8) 64 (vC 8), oX2 aI vI, ai cI (aI 6) 12 (vI 6), ai cI (aI 7) 12 (vI 7), ai cI (aI 8) 12 (vI 8), oX2 aJ vJ, ai cI (aJ 6) 12 (vJ 6), ai cI (aJ 7) 12 (vJ 7), ai cI (aJ 8) 12 (vJ 8), oX1 aR (aX 1) aD o8.2.1, ai cI (aX 1) 200 (vX 1), oX4 aW o31, ai cI (aW 5) 7 (o31 5), ai cI (aW 6) 7 (o31 6), ai cI (aW 7) 7 (o31 7), ai cI (aW 8) 9 (o31 8), ai cI (aW 9) 9 (o31 9), ai cI (aW 10) 9 (o31 10), ai cI (aW 11) 6 (o31 11), ai cI (aW 12) 6 (o31 12), ai cI (aW 13) 6 (o31 13), oX4 aD o8.2.2, ai cI (aD 5) 7 (o8.2.2 5), ai cI (aD 6) 7 (o8.2.2 6), ai cI (aD 7) 7 (o8.2.2 7), ai cI (aD 8) 9 (o8.2.2 8), ai cI (aD 9) 9 (o8.2.2 9), ai cI (aD 10) 9 (o8.2.2 10), ai cI (aD 11) 6 (o8.2.2 11), ai cI (aD 12) 6 (o8.2.2 12), ai cI (aD 13) 6 (o8.2.2 13), oX2 aS o38, ai cI (aS 6) 12 (o38 6), ai cI (aS 7) 12 (o38 7), ai cI (aS 8) 12 (o38 8)] H := hP
    have hD : va_D A [oX5 aX aW aD aR aS aI aJ aY aC (st vX 0 1 (0 : Int32)) vT, oX3 aY aW aS vY, ai cI (aY 3) 427 (vY 3), ai cI (aY 4) 7 (vY 4), ai cI (aY 5) 125 (vY 5), oX0 aC vC, ai cI (aC 4) 6 (vC 4), ai cI (aC 5) 6 (vC 5), ai cI (aC 6) 6 (vC 6), ai cI (aC 7) 6 (vC 7), ai cI (aC 8) 64 (vC 8), oX2 aI vI, ai cI (aI 6) 12 (vI 6), ai cI (aI 7) 12 (vI 7), ai cI (aI 8) 12 (vI 8), oX2 aJ vJ, ai cI (aJ 6) 12 (vJ 6), ai cI (aJ 7) 12 (vJ 7), ai cI (aJ 8) 12 (vJ 8), oX1 aR (aX 1) aD o8.2.1, ai cI (aX 1) 200 (vX 1), oX4 aW o31, ai cI (aW 5) 7 (o31 5), ai cI (aW 6) 7 (o31 6), ai cI (aW 7) 7 (o31 7), ai cI (aW 8) 9 (o31 8), ai cI (aW 9) 9 (o31 9), ai cI (aW 10) 9 (o31 10), ai cI (aW 11) 6 (o31 11), ai cI (aW 12) 6 (o31 12), ai cI (aW 13) 6 (o31 13), oX4 aD o8.2.2, ai cI (aD 5) 7 (o8.2.2 5), ai cI (aD 6) 7 (o8.2.2 6), ai cI (aD 7) 7 (o8.2.2 7), ai cI (aD 8) 9 (o8.2.2 8), ai cI (aD 9) 9 (o8.2.2 9), ai cI (aD 10) 9 (o8.2.2 10), ai cI (aD 11) 6 (o8.2.2 11), ai cI (aD 12) 6 (o8.2.2 12), ai cI (aD 13) 6 (o8.2.2 13), oX2 aS o38, ai cI (aS 6) 12 (o38 6), ai cI (aS 7) 12 (o38 7), ai cI (aS 8) 12 (o38 8)] := hD
    refine lv_aload_n hx hb dX5_tale_41 rfl (lv_at hl 1 rfl) ?_
    refine va_get (D := G) (ci := 5) (v := .ref (aY 0)) (C := RX5) (T := TX5) (N := 11) hx hb hts fi_X5_tale_X5 hown hEN.1 hP 0 rfl rfl 8 (by decide) (hts (.fieldLink RX5 54 "HourWell" "ways" "LHourWell$Ways;") (List.mem_of_getElem? (i := 6) rfl)) (fun _ h9 => h9) rfl dX5_tale_42 ?_
    obtain ⟨o45, ho45, h⟩ := bnd_some h
    refine call_VJ (wr := [oX5 aX aW aD aR aS aI aJ aY aC (st vX 0 1 (0 : Int32)) vT, oX0 aC vC, ai cI (aC 4) 6 (vC 4), ai cI (aC 5) 6 (vC 5), ai cI (aC 6) 6 (vC 6), ai cI (aC 7) 6 (vC 7), ai cI (aC 8) 64 (vC 8), oX2 aI vI, ai cI (aI 6) 12 (vI 6), ai cI (aI 7) 12 (vI 7), ai cI (aI 8) 12 (vI 8), oX2 aJ vJ, ai cI (aJ 6) 12 (vJ 6), ai cI (aJ 7) 12 (vJ 7), ai cI (aJ 8) 12 (vJ 8), oX1 aR (aX 1) aD o8.2.1, ai cI (aX 1) 200 (vX 1), oX4 aW o31, ai cI (aW 5) 7 (o31 5), ai cI (aW 6) 7 (o31 6), ai cI (aW 7) 7 (o31 7), ai cI (aW 8) 9 (o31 8), ai cI (aW 9) 9 (o31 9), ai cI (aW 10) 9 (o31 10), ai cI (aW 11) 6 (o31 11), ai cI (aW 12) 6 (o31 12), ai cI (aW 13) 6 (o31 13), oX4 aD o8.2.2, ai cI (aD 5) 7 (o8.2.2 5), ai cI (aD 6) 7 (o8.2.2 6), ai cI (aD 7) 7 (o8.2.2 7), ai cI (aD 8) 9 (o8.2.2 8), ai cI (aD 9) 9 (o8.2.2 9), ai cI (aD 10) 9 (o8.2.2 10), ai cI (aD 11) 6 (o8.2.2 11), ai cI (aD 12) 6 (o8.2.2 12), ai cI (aD 13) 6 (o8.2.2 13), oX2 aS o38, ai cI (aS 6) 12 (o38 6), ai cI (aS 7) 12 (o38 7), ai cI (aS 8) 12 (o38 8)]) (As := []) (rest := []) ⟨hx, hb, hml, hown, hts⟩ (c_X3_forgetWay l G cI cZ aY aW aS vY o45 ho45) (cwV 0 hts gX5_tale_X3_forgetWay rfl rfl rfl hdV_X3_forgetWay ⟨Nat.le_of_ble_eq_true rfl, Nat.le_of_ble_eq_true rfl⟩) hEN hA hP hD hS [1, 2, 3, 4] [0, 5, 6, 7, 8, 9, 10, 11, 12, 13, 14, 15, 16, 17, 18, 19, 20, 21, 22, 23, 24, 25, 26, 27, 28, 29, 30, 31, 32, 33, 34, 35, 36, 37, 38, 39, 40, 41, 42, 43, 44] rfl (by decide) rfl (by decide) (by decide) 1 rfl rfl rfl hl.1 rfl (Nat.le_of_ble_eq_true rfl) dX5_tale_45 ⟨Nat.le_of_ble_eq_true rfl, Nat.le_of_ble_eq_true rfl⟩ (fun H locs hP hD hS => ?_)
    have hP : va_P G vwCl [oX5 aX aW aD aR aS aI aJ aY aC (st vX 0 1 (0 : Int32)) vT, oX0 aC vC, ai cI (aC 4) 6 (vC 4), ai cI (aC 5) 6 (vC 5), ai cI (aC 6) 6 (vC 6), ai cI (aC 7) 6 (vC 7), ai cI (aC 8) 64 (vC 8), oX2 aI vI, ai cI (aI 6) 12 (vI 6), ai cI (aI 7) 12 (vI 7), ai cI (aI 8) 12 (vI 8), oX2 aJ vJ, ai cI (aJ 6) 12 (vJ 6), ai cI (aJ 7) 12 (vJ 7), ai cI (aJ 8) 12 (vJ 8), oX1 aR (aX 1) aD o8.2.1, ai cI (aX 1) 200 (vX 1), oX4 aW o31, ai cI (aW 5) 7 (o31 5), ai cI (aW 6) 7 (o31 6), ai cI (aW 7) 7 (o31 7), ai cI (aW 8) 9 (o31 8), ai cI (aW 9) 9 (o31 9), ai cI (aW 10) 9 (o31 10), ai cI (aW 11) 6 (o31 11), ai cI (aW 12) 6 (o31 12), ai cI (aW 13) 6 (o31 13), oX4 aD o8.2.2, ai cI (aD 5) 7 (o8.2.2 5), ai cI (aD 6) 7 (o8.2.2 6), ai cI (aD 7) 7 (o8.2.2 7), ai cI (aD 8) 9 (o8.2.2 8), ai cI (aD 9) 9 (o8.2.2 9), ai cI (aD 10) 9 (o8.2.2 10), ai cI (aD 11) 6 (o8.2.2 11), ai cI (aD 12) 6 (o8.2.2 12), ai cI (aD 13) 6 (o8.2.2 13), oX2 aS o38, ai cI (aS 6) 12 (o38 6), ai cI (aS 7) 12 (o38 7), ai cI (aS 8) 12 (o38 8), oX3 aY aW aS o45, ai cI (aY 3) 427 (o45 3), ai cI (aY 4) 7 (o45 4), ai cI (aY 5) 125 (o45 5)] H := hP
    have hD : va_D A [oX5 aX aW aD aR aS aI aJ aY aC (st vX 0 1 (0 : Int32)) vT, oX0 aC vC, ai cI (aC 4) 6 (vC 4), ai cI (aC 5) 6 (vC 5), ai cI (aC 6) 6 (vC 6), ai cI (aC 7) 6 (vC 7), ai cI (aC 8) 64 (vC 8), oX2 aI vI, ai cI (aI 6) 12 (vI 6), ai cI (aI 7) 12 (vI 7), ai cI (aI 8) 12 (vI 8), oX2 aJ vJ, ai cI (aJ 6) 12 (vJ 6), ai cI (aJ 7) 12 (vJ 7), ai cI (aJ 8) 12 (vJ 8), oX1 aR (aX 1) aD o8.2.1, ai cI (aX 1) 200 (vX 1), oX4 aW o31, ai cI (aW 5) 7 (o31 5), ai cI (aW 6) 7 (o31 6), ai cI (aW 7) 7 (o31 7), ai cI (aW 8) 9 (o31 8), ai cI (aW 9) 9 (o31 9), ai cI (aW 10) 9 (o31 10), ai cI (aW 11) 6 (o31 11), ai cI (aW 12) 6 (o31 12), ai cI (aW 13) 6 (o31 13), oX4 aD o8.2.2, ai cI (aD 5) 7 (o8.2.2 5), ai cI (aD 6) 7 (o8.2.2 6), ai cI (aD 7) 7 (o8.2.2 7), ai cI (aD 8) 9 (o8.2.2 8), ai cI (aD 9) 9 (o8.2.2 9), ai cI (aD 10) 9 (o8.2.2 10), ai cI (aD 11) 6 (o8.2.2 11), ai cI (aD 12) 6 (o8.2.2 12), ai cI (aD 13) 6 (o8.2.2 13), oX2 aS o38, ai cI (aS 6) 12 (o38 6), ai cI (aS 7) 12 (o38 7), ai cI (aS 8) 12 (o38 8), oX3 aY aW aS o45, ai cI (aY 3) 427 (o45 3), ai cI (aY 4) 7 (o45 4), ai cI (aY 5) 125 (o45 5)] := hD
    refine lv_aload_n hx hb dX5_tale_48 rfl (lv_at hl 1 rfl) ?_
    refine va_get (D := G) (ci := 5) (v := .ref (aI 0)) (C := RX5) (T := TX5) (N := 11) hx hb hts fi_X5_tale_X5 hown hEN.1 hP 0 rfl rfl 6 (by decide) (hts (.fieldLink RX5 43 "HourWell" "firstImage" "LHourWell$Son;") (List.mem_of_getElem? (i := 7) rfl)) (fun _ h9 => h9) rfl dX5_tale_49 ?_
    refine lv_iconst (v := (0 : Int32)) hx hb dX5_tale_52 k_iconst_0 ?_
    refine va_put (D := G) (ci := 2) (v := .int (0 : Int32)) (ty := .boolean) (C := RX2) (T := TX2) (N := 8) hx hb hts fi_X5_tale_X2 tyX2 tyX2_ok nmX2 hown hEN.1 hP hD hS 7 rfl rfl 4 (by decide) (hts (.fieldLink RX5 87 "HourWell$Son" "isKept" "Z") (List.mem_of_getElem? (i := 8) rfl)) (fun _ h9 => h9) rfl (by decide +kernel) rfl rfl (Nat.le_of_ble_eq_true rfl) dX5_tale_53 (fun H locs hP hD hS => ?_)
    have hP : va_P G vwCl [oX5 aX aW aD aR aS aI aJ aY aC (st vX 0 1 (0 : Int32)) vT, oX0 aC vC, ai cI (aC 4) 6 (vC 4), ai cI (aC 5) 6 (vC 5), ai cI (aC 6) 6 (vC 6), ai cI (aC 7) 6 (vC 7), ai cI (aC 8) 64 (vC 8), oX2 aI (st vI 0 4 (0 : Int32)), ai cI (aI 6) 12 (vI 6), ai cI (aI 7) 12 (vI 7), ai cI (aI 8) 12 (vI 8), oX2 aJ vJ, ai cI (aJ 6) 12 (vJ 6), ai cI (aJ 7) 12 (vJ 7), ai cI (aJ 8) 12 (vJ 8), oX1 aR (aX 1) aD o8.2.1, ai cI (aX 1) 200 (vX 1), oX4 aW o31, ai cI (aW 5) 7 (o31 5), ai cI (aW 6) 7 (o31 6), ai cI (aW 7) 7 (o31 7), ai cI (aW 8) 9 (o31 8), ai cI (aW 9) 9 (o31 9), ai cI (aW 10) 9 (o31 10), ai cI (aW 11) 6 (o31 11), ai cI (aW 12) 6 (o31 12), ai cI (aW 13) 6 (o31 13), oX4 aD o8.2.2, ai cI (aD 5) 7 (o8.2.2 5), ai cI (aD 6) 7 (o8.2.2 6), ai cI (aD 7) 7 (o8.2.2 7), ai cI (aD 8) 9 (o8.2.2 8), ai cI (aD 9) 9 (o8.2.2 9), ai cI (aD 10) 9 (o8.2.2 10), ai cI (aD 11) 6 (o8.2.2 11), ai cI (aD 12) 6 (o8.2.2 12), ai cI (aD 13) 6 (o8.2.2 13), oX2 aS o38, ai cI (aS 6) 12 (o38 6), ai cI (aS 7) 12 (o38 7), ai cI (aS 8) 12 (o38 8), oX3 aY aW aS o45, ai cI (aY 3) 427 (o45 3), ai cI (aY 4) 7 (o45 4), ai cI (aY 5) 125 (o45 5)] H := hP
    have hD : va_D A [oX5 aX aW aD aR aS aI aJ aY aC (st vX 0 1 (0 : Int32)) vT, oX0 aC vC, ai cI (aC 4) 6 (vC 4), ai cI (aC 5) 6 (vC 5), ai cI (aC 6) 6 (vC 6), ai cI (aC 7) 6 (vC 7), ai cI (aC 8) 64 (vC 8), oX2 aI (st vI 0 4 (0 : Int32)), ai cI (aI 6) 12 (vI 6), ai cI (aI 7) 12 (vI 7), ai cI (aI 8) 12 (vI 8), oX2 aJ vJ, ai cI (aJ 6) 12 (vJ 6), ai cI (aJ 7) 12 (vJ 7), ai cI (aJ 8) 12 (vJ 8), oX1 aR (aX 1) aD o8.2.1, ai cI (aX 1) 200 (vX 1), oX4 aW o31, ai cI (aW 5) 7 (o31 5), ai cI (aW 6) 7 (o31 6), ai cI (aW 7) 7 (o31 7), ai cI (aW 8) 9 (o31 8), ai cI (aW 9) 9 (o31 9), ai cI (aW 10) 9 (o31 10), ai cI (aW 11) 6 (o31 11), ai cI (aW 12) 6 (o31 12), ai cI (aW 13) 6 (o31 13), oX4 aD o8.2.2, ai cI (aD 5) 7 (o8.2.2 5), ai cI (aD 6) 7 (o8.2.2 6), ai cI (aD 7) 7 (o8.2.2 7), ai cI (aD 8) 9 (o8.2.2 8), ai cI (aD 9) 9 (o8.2.2 9), ai cI (aD 10) 9 (o8.2.2 10), ai cI (aD 11) 6 (o8.2.2 11), ai cI (aD 12) 6 (o8.2.2 12), ai cI (aD 13) 6 (o8.2.2 13), oX2 aS o38, ai cI (aS 6) 12 (o38 6), ai cI (aS 7) 12 (o38 7), ai cI (aS 8) 12 (o38 8), oX3 aY aW aS o45, ai cI (aY 3) 427 (o45 3), ai cI (aY 4) 7 (o45 4), ai cI (aY 5) 125 (o45 5)] := hD
    refine lv_aload_n hx hb dX5_tale_56 rfl (lv_at hl 1 rfl) ?_
    refine va_get (D := G) (ci := 5) (v := .ref (aJ 0)) (C := RX5) (T := TX5) (N := 11) hx hb hts fi_X5_tale_X5 hown hEN.1 hP 0 rfl rfl 7 (by decide) (hts (.fieldLink RX5 46 "HourWell" "secondImage" "LHourWell$Son;") (List.mem_of_getElem? (i := 9) rfl)) (fun _ h9 => h9) rfl dX5_tale_57 ?_
    refine lv_iconst (v := (0 : Int32)) hx hb dX5_tale_60 k_iconst_0 ?_
    refine va_put (D := G) (ci := 2) (v := .int (0 : Int32)) (ty := .boolean) (C := RX2) (T := TX2) (N := 8) hx hb hts fi_X5_tale_X2 tyX2 tyX2_ok nmX2 hown hEN.1 hP hD hS 11 rfl rfl 4 (by decide) (hts (.fieldLink RX5 87 "HourWell$Son" "isKept" "Z") (List.mem_of_getElem? (i := 8) rfl)) (fun _ h9 => h9) rfl (by decide +kernel) rfl rfl (Nat.le_of_ble_eq_true rfl) dX5_tale_61 (fun H locs hP hD hS => ?_)
    have hP : va_P G vwCl [oX5 aX aW aD aR aS aI aJ aY aC (st vX 0 1 (0 : Int32)) vT, oX0 aC vC, ai cI (aC 4) 6 (vC 4), ai cI (aC 5) 6 (vC 5), ai cI (aC 6) 6 (vC 6), ai cI (aC 7) 6 (vC 7), ai cI (aC 8) 64 (vC 8), oX2 aI (st vI 0 4 (0 : Int32)), ai cI (aI 6) 12 (vI 6), ai cI (aI 7) 12 (vI 7), ai cI (aI 8) 12 (vI 8), oX2 aJ (st vJ 0 4 (0 : Int32)), ai cI (aJ 6) 12 (vJ 6), ai cI (aJ 7) 12 (vJ 7), ai cI (aJ 8) 12 (vJ 8), oX1 aR (aX 1) aD o8.2.1, ai cI (aX 1) 200 (vX 1), oX4 aW o31, ai cI (aW 5) 7 (o31 5), ai cI (aW 6) 7 (o31 6), ai cI (aW 7) 7 (o31 7), ai cI (aW 8) 9 (o31 8), ai cI (aW 9) 9 (o31 9), ai cI (aW 10) 9 (o31 10), ai cI (aW 11) 6 (o31 11), ai cI (aW 12) 6 (o31 12), ai cI (aW 13) 6 (o31 13), oX4 aD o8.2.2, ai cI (aD 5) 7 (o8.2.2 5), ai cI (aD 6) 7 (o8.2.2 6), ai cI (aD 7) 7 (o8.2.2 7), ai cI (aD 8) 9 (o8.2.2 8), ai cI (aD 9) 9 (o8.2.2 9), ai cI (aD 10) 9 (o8.2.2 10), ai cI (aD 11) 6 (o8.2.2 11), ai cI (aD 12) 6 (o8.2.2 12), ai cI (aD 13) 6 (o8.2.2 13), oX2 aS o38, ai cI (aS 6) 12 (o38 6), ai cI (aS 7) 12 (o38 7), ai cI (aS 8) 12 (o38 8), oX3 aY aW aS o45, ai cI (aY 3) 427 (o45 3), ai cI (aY 4) 7 (o45 4), ai cI (aY 5) 125 (o45 5)] H := hP
    have hD : va_D A [oX5 aX aW aD aR aS aI aJ aY aC (st vX 0 1 (0 : Int32)) vT, oX0 aC vC, ai cI (aC 4) 6 (vC 4), ai cI (aC 5) 6 (vC 5), ai cI (aC 6) 6 (vC 6), ai cI (aC 7) 6 (vC 7), ai cI (aC 8) 64 (vC 8), oX2 aI (st vI 0 4 (0 : Int32)), ai cI (aI 6) 12 (vI 6), ai cI (aI 7) 12 (vI 7), ai cI (aI 8) 12 (vI 8), oX2 aJ (st vJ 0 4 (0 : Int32)), ai cI (aJ 6) 12 (vJ 6), ai cI (aJ 7) 12 (vJ 7), ai cI (aJ 8) 12 (vJ 8), oX1 aR (aX 1) aD o8.2.1, ai cI (aX 1) 200 (vX 1), oX4 aW o31, ai cI (aW 5) 7 (o31 5), ai cI (aW 6) 7 (o31 6), ai cI (aW 7) 7 (o31 7), ai cI (aW 8) 9 (o31 8), ai cI (aW 9) 9 (o31 9), ai cI (aW 10) 9 (o31 10), ai cI (aW 11) 6 (o31 11), ai cI (aW 12) 6 (o31 12), ai cI (aW 13) 6 (o31 13), oX4 aD o8.2.2, ai cI (aD 5) 7 (o8.2.2 5), ai cI (aD 6) 7 (o8.2.2 6), ai cI (aD 7) 7 (o8.2.2 7), ai cI (aD 8) 9 (o8.2.2 8), ai cI (aD 9) 9 (o8.2.2 9), ai cI (aD 10) 9 (o8.2.2 10), ai cI (aD 11) 6 (o8.2.2 11), ai cI (aD 12) 6 (o8.2.2 12), ai cI (aD 13) 6 (o8.2.2 13), oX2 aS o38, ai cI (aS 6) 12 (o38 6), ai cI (aS 7) 12 (o38 7), ai cI (aS 8) 12 (o38 8), oX3 aY aW aS o45, ai cI (aY 3) 427 (o45 3), ai cI (aY 4) 7 (o45 4), ai cI (aY 5) 125 (o45 5)] := hD
    refine lv_aload_n hx hb dX5_tale_64 rfl (lv_at hl 1 rfl) ?_
    refine va_get (D := G) (ci := 5) (v := .ref (aC 0)) (C := RX5) (T := TX5) (N := 11) hx hb hts fi_X5_tale_X5 hown hEN.1 hP 0 rfl rfl 9 (by decide) (hts (.fieldLink RX5 61 "HourWell" "cups" "LHourWell$Cups;") (List.mem_of_getElem? (i := 10) rfl)) (fun _ h9 => h9) rfl dX5_tale_65 ?_
    obtain ⟨o68, ho68, h⟩ := bnd_some h
    refine call_VJ (wr := [oX5 aX aW aD aR aS aI aJ aY aC (st vX 0 1 (0 : Int32)) vT, oX2 aI (st vI 0 4 (0 : Int32)), ai cI (aI 6) 12 (vI 6), ai cI (aI 7) 12 (vI 7), ai cI (aI 8) 12 (vI 8), oX2 aJ (st vJ 0 4 (0 : Int32)), ai cI (aJ 6) 12 (vJ 6), ai cI (aJ 7) 12 (vJ 7), ai cI (aJ 8) 12 (vJ 8), oX1 aR (aX 1) aD o8.2.1, ai cI (aX 1) 200 (vX 1), oX4 aW o31, ai cI (aW 5) 7 (o31 5), ai cI (aW 6) 7 (o31 6), ai cI (aW 7) 7 (o31 7), ai cI (aW 8) 9 (o31 8), ai cI (aW 9) 9 (o31 9), ai cI (aW 10) 9 (o31 10), ai cI (aW 11) 6 (o31 11), ai cI (aW 12) 6 (o31 12), ai cI (aW 13) 6 (o31 13), oX4 aD o8.2.2, ai cI (aD 5) 7 (o8.2.2 5), ai cI (aD 6) 7 (o8.2.2 6), ai cI (aD 7) 7 (o8.2.2 7), ai cI (aD 8) 9 (o8.2.2 8), ai cI (aD 9) 9 (o8.2.2 9), ai cI (aD 10) 9 (o8.2.2 10), ai cI (aD 11) 6 (o8.2.2 11), ai cI (aD 12) 6 (o8.2.2 12), ai cI (aD 13) 6 (o8.2.2 13), oX2 aS o38, ai cI (aS 6) 12 (o38 6), ai cI (aS 7) 12 (o38 7), ai cI (aS 8) 12 (o38 8), oX3 aY aW aS o45, ai cI (aY 3) 427 (o45 3), ai cI (aY 4) 7 (o45 4), ai cI (aY 5) 125 (o45 5)]) (As := []) (rest := []) ⟨hx, hb, hml, hown, hts⟩ (c_X0_forgetAll l G cI cZ aC vC o68 ho68) (cwV 0 hts gX5_tale_X0_forgetAll rfl rfl rfl hdV_X0_forgetAll ⟨Nat.le_of_ble_eq_true rfl, Nat.le_of_ble_eq_true rfl⟩) hEN hA hP hD hS [1, 2, 3, 4, 5, 6] [0, 7, 8, 9, 10, 11, 12, 13, 14, 15, 16, 17, 18, 19, 20, 21, 22, 23, 24, 25, 26, 27, 28, 29, 30, 31, 32, 33, 34, 35, 36, 37, 38, 39, 40, 41, 42, 43, 44] rfl (by decide) rfl (by decide) (by decide) 1 rfl rfl rfl hl.1 rfl (Nat.le_of_ble_eq_true rfl) dX5_tale_68 ⟨Nat.le_of_ble_eq_true rfl, Nat.le_of_ble_eq_true rfl⟩ (fun H locs hP hD hS => ?_)
    have hP : va_P G vwCl [oX5 aX aW aD aR aS aI aJ aY aC (st vX 0 1 (0 : Int32)) vT, oX2 aI (st vI 0 4 (0 : Int32)), ai cI (aI 6) 12 (vI 6), ai cI (aI 7) 12 (vI 7), ai cI (aI 8) 12 (vI 8), oX2 aJ (st vJ 0 4 (0 : Int32)), ai cI (aJ 6) 12 (vJ 6), ai cI (aJ 7) 12 (vJ 7), ai cI (aJ 8) 12 (vJ 8), oX1 aR (aX 1) aD o8.2.1, ai cI (aX 1) 200 (vX 1), oX4 aW o31, ai cI (aW 5) 7 (o31 5), ai cI (aW 6) 7 (o31 6), ai cI (aW 7) 7 (o31 7), ai cI (aW 8) 9 (o31 8), ai cI (aW 9) 9 (o31 9), ai cI (aW 10) 9 (o31 10), ai cI (aW 11) 6 (o31 11), ai cI (aW 12) 6 (o31 12), ai cI (aW 13) 6 (o31 13), oX4 aD o8.2.2, ai cI (aD 5) 7 (o8.2.2 5), ai cI (aD 6) 7 (o8.2.2 6), ai cI (aD 7) 7 (o8.2.2 7), ai cI (aD 8) 9 (o8.2.2 8), ai cI (aD 9) 9 (o8.2.2 9), ai cI (aD 10) 9 (o8.2.2 10), ai cI (aD 11) 6 (o8.2.2 11), ai cI (aD 12) 6 (o8.2.2 12), ai cI (aD 13) 6 (o8.2.2 13), oX2 aS o38, ai cI (aS 6) 12 (o38 6), ai cI (aS 7) 12 (o38 7), ai cI (aS 8) 12 (o38 8), oX3 aY aW aS o45, ai cI (aY 3) 427 (o45 3), ai cI (aY 4) 7 (o45 4), ai cI (aY 5) 125 (o45 5), oX0 aC o68, ai cI (aC 4) 6 (o68 4), ai cI (aC 5) 6 (o68 5), ai cI (aC 6) 6 (o68 6), ai cI (aC 7) 6 (o68 7), ai cI (aC 8) 64 (o68 8)] H := hP
    have hD : va_D A [oX5 aX aW aD aR aS aI aJ aY aC (st vX 0 1 (0 : Int32)) vT, oX2 aI (st vI 0 4 (0 : Int32)), ai cI (aI 6) 12 (vI 6), ai cI (aI 7) 12 (vI 7), ai cI (aI 8) 12 (vI 8), oX2 aJ (st vJ 0 4 (0 : Int32)), ai cI (aJ 6) 12 (vJ 6), ai cI (aJ 7) 12 (vJ 7), ai cI (aJ 8) 12 (vJ 8), oX1 aR (aX 1) aD o8.2.1, ai cI (aX 1) 200 (vX 1), oX4 aW o31, ai cI (aW 5) 7 (o31 5), ai cI (aW 6) 7 (o31 6), ai cI (aW 7) 7 (o31 7), ai cI (aW 8) 9 (o31 8), ai cI (aW 9) 9 (o31 9), ai cI (aW 10) 9 (o31 10), ai cI (aW 11) 6 (o31 11), ai cI (aW 12) 6 (o31 12), ai cI (aW 13) 6 (o31 13), oX4 aD o8.2.2, ai cI (aD 5) 7 (o8.2.2 5), ai cI (aD 6) 7 (o8.2.2 6), ai cI (aD 7) 7 (o8.2.2 7), ai cI (aD 8) 9 (o8.2.2 8), ai cI (aD 9) 9 (o8.2.2 9), ai cI (aD 10) 9 (o8.2.2 10), ai cI (aD 11) 6 (o8.2.2 11), ai cI (aD 12) 6 (o8.2.2 12), ai cI (aD 13) 6 (o8.2.2 13), oX2 aS o38, ai cI (aS 6) 12 (o38 6), ai cI (aS 7) 12 (o38 7), ai cI (aS 8) 12 (o38 8), oX3 aY aW aS o45, ai cI (aY 3) 427 (o45 3), ai cI (aY 4) 7 (o45 4), ai cI (aY 5) 125 (o45 5), oX0 aC o68, ai cI (aC 4) 6 (o68 4), ai cI (aC 5) 6 (o68 5), ai cI (aC 6) 6 (o68 6), ai cI (aC 7) 6 (o68 7), ai cI (aC 8) 64 (o68 8)] := hD
    refine lv_iload_n hx hb dX5_tale_71 rfl (lv_at hl 0 rfl) ?_
    have hres := Option.some.inj h
    subst hres
    exact hRet 72 _ _ _ (hP.sub [0, 10, 9, 35, 36, 37, 38, 39, 40, 41, 42, 43, 44, 11, 12, 13, 14, 15, 16, 17, 18, 19, 20, 21, 22, 23, 24, 25, 26, 27, 28, 29, 30, 31, 32, 33, 34, 1, 2, 3, 4, 5, 6, 7, 8] rfl) (hD.sub [0, 10, 9, 35, 36, 37, 38, 39, 40, 41, 42, 43, 44, 11, 12, 13, 14, 15, 16, 17, 18, 19, 20, 21, 22, 23, 24, 25, 26, 27, 28, 29, 30, 31, 32, 33, 34, 1, 2, 3, 4, 5, 6, 7, 8] (by decide) rfl) hS dX5_tale_72
  · have h := (if_neg c13).symm.trans h
    refine lv_iload_n hx hb dX5_tale_16 rfl (lv_at hl 0 rfl) ?_
    have hres := Option.some.inj h
    subst hres
    exact hRet 17 _ _ _ (hP.sub [0, 44, 33, 1, 2, 3, 4, 5, 6, 7, 8, 9, 10, 11, 12, 13, 14, 15, 16, 17, 18, 19, 20, 34, 35, 36, 37, 38, 39, 40, 41, 42, 43, 21, 22, 23, 24, 25, 26, 27, 28, 29, 30, 31, 32] rfl) (hD.sub [0, 44, 33, 1, 2, 3, 4, 5, 6, 7, 8, 9, 10, 11, 12, 13, 14, 15, 16, 17, 18, 19, 20, 34, 35, 36, 37, 38, 39, 40, 41, 42, 43, 21, 22, 23, 24, 25, 26, 27, 28, 29, 30, 31, 32] (by decide) rfl) hS dX5_tale_17
abbrev rm_X5_place : Room := { frames := 2, cells := 0, slots := 0, locals := 42 }
theorem fi_X5_place_X5 : ∀ w ∈ wsX50, w ∈ wsX5_place := fun _ h => List.mem_cons_of_mem _ (List.mem_append_left _ (List.mem_append_right _ h))
theorem fi_X5_place_X4 : ∀ w ∈ wsX40, w ∈ wsX5_place := fun _ h => List.mem_cons_of_mem _ (List.mem_append_right _ h)
theorem hdV_X5_place : yX5_place.cls = RX5 ∧ yX5_place.cls ≠ "java/lang/invoke/MethodHandle" ∧ yX5_place.cls ≠ "java/lang/invoke/VarHandle" ∧ (parseMethodDescriptor yX5_place.desc).map (fun d => d.parameters.length) = some 2 := by decide +kernel
set_option maxRecDepth 100000 in
set_option maxHeartbeats 4000000 in
theorem c_X5_place (l : Launch) (G : va_G) (cI cZ : ClassId) (aX : Nat → Nat) (aR : Nat → Nat) (aY : Nat → Nat) (aC : Nat → Nat) (aW : Nat → Nat) (aD : Nat → Nat) (aS : Nat → Nat) (aI : Nat → Nat) (aJ : Nat → Nat) (vT : Int64) (vX : Ob) (vW : Ob) (x1 : Int32) (x2 : Int32) (res : Int32) (h : m_X5_place vX vW x1 x2 = some res) : Ct l yX5_place wsX5_place rm_X5_place G cI cZ [.ref (aX 0), .int x1, .int x2] [oX5 aX aW aD aR aS aI aJ aY aC vX vT, oX4 aW vW, ai cI (aW 5) 7 (vW 5), ai cI (aW 6) 7 (vW 6), ai cI (aW 7) 7 (vW 7)] (some (.int res)) [oX5 aX aW aD aR aS aI aJ aY aC vX vT, oX4 aW vW, ai cI (aW 5) 7 (vW 5), ai cI (aW 6) 7 (vW 6), ai cI (aW 7) 7 (vW 7)] := by
  refine Ct.of_i (maxL := 3) (by decide) rfl (Nat.le_of_ble_eq_true rfl) ?_
  intro p e s m below meth c args hx hb hml hown hts A hA hEN hP hD hS Q hRet ls hl
  have hown : s.vm.findClass RX5 = some m.cls := hown
  have hl : lv_has ls 3 [(0, .ref (aX 0)), (1, .int x1), (2, .int x2)] := hl
  unfold m_X5_place at h
  refine lv_aload_n hx hb dX5_place_0 rfl (lv_at hl 0 rfl) ?_
  refine va_get (D := G) (ci := 5) (v := .ref (aW 0)) (C := RX5) (T := TX5) (N := 11) hx hb hts fi_X5_place_X5 hown hEN.1 hP 0 rfl rfl 2 (by decide) (hts (.fieldLink RX5 20 "HourWell" "world" "LHourWell$World;") (List.mem_of_getElem? (i := 1) rfl)) (fun _ h9 => h9) rfl dX5_place_1 ?_
  refine lv_iload_n hx hb dX5_place_4 rfl (lv_at hl 1 rfl) ?_
  obtain ⟨o5, ho5, h⟩ := bnd_some h
  refine call_V0 (As := [.int x1]) (rest := []) ⟨hx, hb, hml, hown, hts⟩ (c_X4_hasPlace l G cI cZ aW vW x1 o5 ho5) (cwV 1 hts gX5_place_X4_hasPlace rfl rfl rfl hdV_X4_hasPlace ⟨Nat.le_of_ble_eq_true rfl, Nat.le_of_ble_eq_true rfl⟩) hEN hA hP hD hS [1] rfl (by decide) 1 rfl rfl rfl hl.1 rfl (Nat.le_of_ble_eq_true rfl) dX5_place_5 ⟨Nat.le_of_ble_eq_true rfl, Nat.le_of_ble_eq_true rfl⟩ (fun H locs hP hS => ?_)
  refine lv_if_ne (tgt := 13) hx hb dX5_place_8 (by decide) (fun c8 => ?_) (fun c8 => ?_)
  · have h := (if_neg c8).symm.trans h
    refine lv_iload_n hx hb dX5_place_13 rfl (lv_at hl 2 rfl) ?_
    by_cases c14_0 : x2 = (0 : Int32)
    · have h := (if_pos c14_0).symm.trans h
      refine lv_tableIn (off := 26) (tgt := 40) hx hb dX5_place_14 (by rw [c14_0]; decide) (by rw [c14_0]; decide) (by rw [c14_0]; decide) (by decide) ?_
      refine lv_aload_n hx hb dX5_place_40 rfl (lv_at hl 0 rfl) ?_
      refine va_get (D := G) (ci := 5) (v := .ref (aW 0)) (C := RX5) (T := TX5) (N := 11) hx hb hts fi_X5_place_X5 hown hEN.1 hP 0 rfl rfl 2 (by decide) (hts (.fieldLink RX5 20 "HourWell" "world" "LHourWell$World;") (List.mem_of_getElem? (i := 1) rfl)) (fun _ h9 => h9) rfl dX5_place_41 ?_
      refine lv_iload_n hx hb dX5_place_44 rfl (lv_at hl 1 rfl) ?_
      obtain ⟨o45, ho45, h⟩ := bnd_some h
      refine call_V0 (As := [.int x1]) (rest := []) ⟨hx, hb, hml, hown, hts⟩ (c_X4_lionAt l G cI cZ aW vW x1 o45 ho45) (cwV 1 hts gX5_place_X4_lionAt rfl rfl rfl hdV_X4_lionAt ⟨Nat.le_of_ble_eq_true rfl, Nat.le_of_ble_eq_true rfl⟩) hEN hA hP hD hS [1, 2] rfl (by decide) 1 rfl rfl rfl hl.1 rfl (Nat.le_of_ble_eq_true rfl) dX5_place_45 ⟨Nat.le_of_ble_eq_true rfl, Nat.le_of_ble_eq_true rfl⟩ (fun H locs hP hS => ?_)
      have hres := Option.some.inj h
      subst hres
      exact hRet 48 _ _ _ hP hD hS dX5_place_48
    · have h := (if_neg c14_0).symm.trans h
      by_cases c14_1 : x2 = (1 : Int32)
      · have h := (if_pos c14_1).symm.trans h
        refine lv_tableIn (off := 35) (tgt := 49) hx hb dX5_place_14 (by rw [c14_1]; decide) (by rw [c14_1]; decide) (by rw [c14_1]; decide) (by decide) ?_
        refine lv_aload_n hx hb dX5_place_49 rfl (lv_at hl 0 rfl) ?_
        refine va_get (D := G) (ci := 5) (v := .ref (aW 0)) (C := RX5) (T := TX5) (N := 11) hx hb hts fi_X5_place_X5 hown hEN.1 hP 0 rfl rfl 2 (by decide) (hts (.fieldLink RX5 20 "HourWell" "world" "LHourWell$World;") (List.mem_of_getElem? (i := 1) rfl)) (fun _ h9 => h9) rfl dX5_place_50 ?_
        refine lv_iload_n hx hb dX5_place_53 rfl (lv_at hl 1 rfl) ?_
        obtain ⟨o54, ho54, h⟩ := bnd_some h
        refine call_V0 (As := [.int x1]) (rest := []) ⟨hx, hb, hml, hown, hts⟩ (c_X4_gateFromAt l G cI cZ aW vW x1 o54 ho54) (cwV 1 hts gX5_place_X4_gateFromAt rfl rfl rfl hdV_X4_gateFromAt ⟨Nat.le_of_ble_eq_true rfl, Nat.le_of_ble_eq_true rfl⟩) hEN hA hP hD hS [1, 3] rfl (by decide) 1 rfl rfl rfl hl.1 rfl (Nat.le_of_ble_eq_true rfl) dX5_place_54 ⟨Nat.le_of_ble_eq_true rfl, Nat.le_of_ble_eq_true rfl⟩ (fun H locs hP hS => ?_)
        have hres := Option.some.inj h
        subst hres
        exact hRet 57 _ _ _ hP hD hS dX5_place_57
      · have h := (if_neg c14_1).symm.trans h
        by_cases c14_2 : x2 = (2 : Int32)
        · have h := (if_pos c14_2).symm.trans h
          refine lv_tableIn (off := 44) (tgt := 58) hx hb dX5_place_14 (by rw [c14_2]; decide) (by rw [c14_2]; decide) (by rw [c14_2]; decide) (by decide) ?_
          refine lv_aload_n hx hb dX5_place_58 rfl (lv_at hl 0 rfl) ?_
          refine va_get (D := G) (ci := 5) (v := .ref (aW 0)) (C := RX5) (T := TX5) (N := 11) hx hb hts fi_X5_place_X5 hown hEN.1 hP 0 rfl rfl 2 (by decide) (hts (.fieldLink RX5 20 "HourWell" "world" "LHourWell$World;") (List.mem_of_getElem? (i := 1) rfl)) (fun _ h9 => h9) rfl dX5_place_59 ?_
          refine lv_iload_n hx hb dX5_place_62 rfl (lv_at hl 1 rfl) ?_
          obtain ⟨o63, ho63, h⟩ := bnd_some h
          refine call_V0 (As := [.int x1]) (rest := []) ⟨hx, hb, hml, hown, hts⟩ (c_X4_gateHoursAt l G cI cZ aW vW x1 o63 ho63) (cwV 1 hts gX5_place_X4_gateHoursAt rfl rfl rfl hdV_X4_gateHoursAt ⟨Nat.le_of_ble_eq_true rfl, Nat.le_of_ble_eq_true rfl⟩) hEN hA hP hD hS [1, 4] rfl (by decide) 1 rfl rfl rfl hl.1 rfl (Nat.le_of_ble_eq_true rfl) dX5_place_63 ⟨Nat.le_of_ble_eq_true rfl, Nat.le_of_ble_eq_true rfl⟩ (fun H locs hP hS => ?_)
          have hres := Option.some.inj h
          subst hres
          exact hRet 66 _ _ _ hP hD hS dX5_place_66
        · have h := (if_neg c14_2).symm.trans h
          refine lv_tableOut (tgt := 67) hx hb dX5_place_14 (by have e0 := lv_neT c14_0 (a := 0) (by decide); have e1 := lv_neT c14_1 (a := 1) (by decide); have e2 := lv_neT c14_2 (a := 2) (by decide);  omega) (by decide) ?_
          refine lv_iconst (v := (-1 : Int32)) hx hb dX5_place_67 k_iconst_n1 ?_
          have hres := Option.some.inj h
          subst hres
          exact hRet 68 _ _ _ hP hD hS dX5_place_68
  · have h := (if_pos c8).symm.trans h
    refine lv_iconst (v := (-1 : Int32)) hx hb dX5_place_11 k_iconst_n1 ?_
    have hres := Option.some.inj h
    subst hres
    exact hRet 12 _ _ _ hP hD hS dX5_place_12
abbrev rm_X5_road : Room := { frames := 2, cells := 0, slots := 0, locals := 42 }
theorem fi_X5_road_X5 : ∀ w ∈ wsX50, w ∈ wsX5_road := fun _ h => List.mem_cons_of_mem _ (List.mem_append_left _ (List.mem_append_right _ h))
theorem fi_X5_road_X4 : ∀ w ∈ wsX40, w ∈ wsX5_road := fun _ h => List.mem_cons_of_mem _ (List.mem_append_right _ h)
theorem hdV_X5_road : yX5_road.cls = RX5 ∧ yX5_road.cls ≠ "java/lang/invoke/MethodHandle" ∧ yX5_road.cls ≠ "java/lang/invoke/VarHandle" ∧ (parseMethodDescriptor yX5_road.desc).map (fun d => d.parameters.length) = some 2 := by decide +kernel
set_option maxRecDepth 100000 in
set_option maxHeartbeats 4000000 in
theorem c_X5_road (l : Launch) (G : va_G) (cI cZ : ClassId) (aX : Nat → Nat) (aR : Nat → Nat) (aY : Nat → Nat) (aC : Nat → Nat) (aW : Nat → Nat) (aD : Nat → Nat) (aS : Nat → Nat) (aI : Nat → Nat) (aJ : Nat → Nat) (vT : Int64) (vX : Ob) (vW : Ob) (x1 : Int32) (x2 : Int32) (res : Int32) (h : m_X5_road vX vW x1 x2 = some res) : Ct l yX5_road wsX5_road rm_X5_road G cI cZ [.ref (aX 0), .int x1, .int x2] [oX5 aX aW aD aR aS aI aJ aY aC vX vT, oX4 aW vW, ai cI (aW 8) 9 (vW 8), ai cI (aW 9) 9 (vW 9), ai cI (aW 10) 9 (vW 10)] (some (.int res)) [oX5 aX aW aD aR aS aI aJ aY aC vX vT, oX4 aW vW, ai cI (aW 8) 9 (vW 8), ai cI (aW 9) 9 (vW 9), ai cI (aW 10) 9 (vW 10)] := by
  refine Ct.of_i (maxL := 3) (by decide) rfl (Nat.le_of_ble_eq_true rfl) ?_
  intro p e s m below meth c args hx hb hml hown hts A hA hEN hP hD hS Q hRet ls hl
  have hown : s.vm.findClass RX5 = some m.cls := hown
  have hl : lv_has ls 3 [(0, .ref (aX 0)), (1, .int x1), (2, .int x2)] := hl
  unfold m_X5_road at h
  refine lv_aload_n hx hb dX5_road_0 rfl (lv_at hl 0 rfl) ?_
  refine va_get (D := G) (ci := 5) (v := .ref (aW 0)) (C := RX5) (T := TX5) (N := 11) hx hb hts fi_X5_road_X5 hown hEN.1 hP 0 rfl rfl 2 (by decide) (hts (.fieldLink RX5 20 "HourWell" "world" "LHourWell$World;") (List.mem_of_getElem? (i := 1) rfl)) (fun _ h9 => h9) rfl dX5_road_1 ?_
  refine lv_iload_n hx hb dX5_road_4 rfl (lv_at hl 1 rfl) ?_
  obtain ⟨o5, ho5, h⟩ := bnd_some h
  refine call_V0 (As := [.int x1]) (rest := []) ⟨hx, hb, hml, hown, hts⟩ (c_X4_hasRoad l G cI cZ aW vW x1 o5 ho5) (cwV 1 hts gX5_road_X4_hasRoad rfl rfl rfl hdV_X4_hasRoad ⟨Nat.le_of_ble_eq_true rfl, Nat.le_of_ble_eq_true rfl⟩) hEN hA hP hD hS [1] rfl (by decide) 1 rfl rfl rfl hl.1 rfl (Nat.le_of_ble_eq_true rfl) dX5_road_5 ⟨Nat.le_of_ble_eq_true rfl, Nat.le_of_ble_eq_true rfl⟩ (fun H locs hP hS => ?_)
  refine lv_if_ne (tgt := 13) hx hb dX5_road_8 (by decide) (fun c8 => ?_) (fun c8 => ?_)
  · have h := (if_neg c8).symm.trans h
    refine lv_iload_n hx hb dX5_road_13 rfl (lv_at hl 2 rfl) ?_
    by_cases c14_0 : x2 = (0 : Int32)
    · have h := (if_pos c14_0).symm.trans h
      refine lv_tableIn (off := 26) (tgt := 40) hx hb dX5_road_14 (by rw [c14_0]; decide) (by rw [c14_0]; decide) (by rw [c14_0]; decide) (by decide) ?_
      refine lv_aload_n hx hb dX5_road_40 rfl (lv_at hl 0 rfl) ?_
      refine va_get (D := G) (ci := 5) (v := .ref (aW 0)) (C := RX5) (T := TX5) (N := 11) hx hb hts fi_X5_road_X5 hown hEN.1 hP 0 rfl rfl 2 (by decide) (hts (.fieldLink RX5 20 "HourWell" "world" "LHourWell$World;") (List.mem_of_getElem? (i := 1) rfl)) (fun _ h9 => h9) rfl dX5_road_41 ?_
      refine lv_iload_n hx hb dX5_road_44 rfl (lv_at hl 1 rfl) ?_
      obtain ⟨o45, ho45, h⟩ := bnd_some h
      refine call_V0 (As := [.int x1]) (rest := []) ⟨hx, hb, hml, hown, hts⟩ (c_X4_roadStart l G cI cZ aW vW x1 o45 ho45) (cwV 1 hts gX5_road_X4_roadStart rfl rfl rfl hdV_X4_roadStart ⟨Nat.le_of_ble_eq_true rfl, Nat.le_of_ble_eq_true rfl⟩) hEN hA hP hD hS [1, 2] rfl (by decide) 1 rfl rfl rfl hl.1 rfl (Nat.le_of_ble_eq_true rfl) dX5_road_45 ⟨Nat.le_of_ble_eq_true rfl, Nat.le_of_ble_eq_true rfl⟩ (fun H locs hP hS => ?_)
      have hres := Option.some.inj h
      subst hres
      exact hRet 48 _ _ _ hP hD hS dX5_road_48
    · have h := (if_neg c14_0).symm.trans h
      by_cases c14_1 : x2 = (1 : Int32)
      · have h := (if_pos c14_1).symm.trans h
        refine lv_tableIn (off := 35) (tgt := 49) hx hb dX5_road_14 (by rw [c14_1]; decide) (by rw [c14_1]; decide) (by rw [c14_1]; decide) (by decide) ?_
        refine lv_aload_n hx hb dX5_road_49 rfl (lv_at hl 0 rfl) ?_
        refine va_get (D := G) (ci := 5) (v := .ref (aW 0)) (C := RX5) (T := TX5) (N := 11) hx hb hts fi_X5_road_X5 hown hEN.1 hP 0 rfl rfl 2 (by decide) (hts (.fieldLink RX5 20 "HourWell" "world" "LHourWell$World;") (List.mem_of_getElem? (i := 1) rfl)) (fun _ h9 => h9) rfl dX5_road_50 ?_
        refine lv_iload_n hx hb dX5_road_53 rfl (lv_at hl 1 rfl) ?_
        obtain ⟨o54, ho54, h⟩ := bnd_some h
        refine call_V0 (As := [.int x1]) (rest := []) ⟨hx, hb, hml, hown, hts⟩ (c_X4_roadEnd l G cI cZ aW vW x1 o54 ho54) (cwV 1 hts gX5_road_X4_roadEnd rfl rfl rfl hdV_X4_roadEnd ⟨Nat.le_of_ble_eq_true rfl, Nat.le_of_ble_eq_true rfl⟩) hEN hA hP hD hS [1, 3] rfl (by decide) 1 rfl rfl rfl hl.1 rfl (Nat.le_of_ble_eq_true rfl) dX5_road_54 ⟨Nat.le_of_ble_eq_true rfl, Nat.le_of_ble_eq_true rfl⟩ (fun H locs hP hS => ?_)
        have hres := Option.some.inj h
        subst hres
        exact hRet 57 _ _ _ hP hD hS dX5_road_57
      · have h := (if_neg c14_1).symm.trans h
        by_cases c14_2 : x2 = (2 : Int32)
        · have h := (if_pos c14_2).symm.trans h
          refine lv_tableIn (off := 44) (tgt := 58) hx hb dX5_road_14 (by rw [c14_2]; decide) (by rw [c14_2]; decide) (by rw [c14_2]; decide) (by decide) ?_
          refine lv_aload_n hx hb dX5_road_58 rfl (lv_at hl 0 rfl) ?_
          refine va_get (D := G) (ci := 5) (v := .ref (aW 0)) (C := RX5) (T := TX5) (N := 11) hx hb hts fi_X5_road_X5 hown hEN.1 hP 0 rfl rfl 2 (by decide) (hts (.fieldLink RX5 20 "HourWell" "world" "LHourWell$World;") (List.mem_of_getElem? (i := 1) rfl)) (fun _ h9 => h9) rfl dX5_road_59 ?_
          refine lv_iload_n hx hb dX5_road_62 rfl (lv_at hl 1 rfl) ?_
          obtain ⟨o63, ho63, h⟩ := bnd_some h
          refine call_V0 (As := [.int x1]) (rest := []) ⟨hx, hb, hml, hown, hts⟩ (c_X4_roadHours l G cI cZ aW vW x1 o63 ho63) (cwV 1 hts gX5_road_X4_roadHours rfl rfl rfl hdV_X4_roadHours ⟨Nat.le_of_ble_eq_true rfl, Nat.le_of_ble_eq_true rfl⟩) hEN hA hP hD hS [1, 4] rfl (by decide) 1 rfl rfl rfl hl.1 rfl (Nat.le_of_ble_eq_true rfl) dX5_road_63 ⟨Nat.le_of_ble_eq_true rfl, Nat.le_of_ble_eq_true rfl⟩ (fun H locs hP hS => ?_)
          have hres := Option.some.inj h
          subst hres
          exact hRet 66 _ _ _ hP hD hS dX5_road_66
        · have h := (if_neg c14_2).symm.trans h
          refine lv_tableOut (tgt := 67) hx hb dX5_road_14 (by have e0 := lv_neT c14_0 (a := 0) (by decide); have e1 := lv_neT c14_1 (a := 1) (by decide); have e2 := lv_neT c14_2 (a := 2) (by decide);  omega) (by decide) ?_
          refine lv_iconst (v := (-1 : Int32)) hx hb dX5_road_67 k_iconst_n1 ?_
          have hres := Option.some.inj h
          subst hres
          exact hRet 68 _ _ _ hP hD hS dX5_road_68
  · have h := (if_pos c8).symm.trans h
    refine lv_iconst (v := (-1 : Int32)) hx hb dX5_road_11 k_iconst_n1 ?_
    have hres := Option.some.inj h
    subst hres
    exact hRet 12 _ _ _ hP hD hS dX5_road_12
abbrev rm_X5_host : Room := { frames := 2, cells := 0, slots := 0, locals := 42 }
theorem fi_X5_host_X5 : ∀ w ∈ wsX50, w ∈ wsX5_host := fun _ h => List.mem_cons_of_mem _ (List.mem_append_left _ (List.mem_append_right _ h))
theorem fi_X5_host_X4 : ∀ w ∈ wsX40, w ∈ wsX5_host := fun _ h => List.mem_cons_of_mem _ (List.mem_append_right _ h)
theorem hdV_X5_host : yX5_host.cls = RX5 ∧ yX5_host.cls ≠ "java/lang/invoke/MethodHandle" ∧ yX5_host.cls ≠ "java/lang/invoke/VarHandle" ∧ (parseMethodDescriptor yX5_host.desc).map (fun d => d.parameters.length) = some 2 := by decide +kernel
set_option maxRecDepth 100000 in
set_option maxHeartbeats 4000000 in
theorem c_X5_host (l : Launch) (G : va_G) (cI cZ : ClassId) (aX : Nat → Nat) (aR : Nat → Nat) (aY : Nat → Nat) (aC : Nat → Nat) (aW : Nat → Nat) (aD : Nat → Nat) (aS : Nat → Nat) (aI : Nat → Nat) (aJ : Nat → Nat) (vT : Int64) (vX : Ob) (vW : Ob) (x1 : Int32) (x2 : Int32) (res : Int32) (h : m_X5_host vX vW x1 x2 = some res) : Ct l yX5_host wsX5_host rm_X5_host G cI cZ [.ref (aX 0), .int x1, .int x2] [oX5 aX aW aD aR aS aI aJ aY aC vX vT, oX4 aW vW, ai cI (aW 11) 6 (vW 11), ai cI (aW 12) 6 (vW 12), ai cI (aW 13) 6 (vW 13)] (some (.int res)) [oX5 aX aW aD aR aS aI aJ aY aC vX vT, oX4 aW vW, ai cI (aW 11) 6 (vW 11), ai cI (aW 12) 6 (vW 12), ai cI (aW 13) 6 (vW 13)] := by
  refine Ct.of_i (maxL := 3) (by decide) rfl (Nat.le_of_ble_eq_true rfl) ?_
  intro p e s m below meth c args hx hb hml hown hts A hA hEN hP hD hS Q hRet ls hl
  have hown : s.vm.findClass RX5 = some m.cls := hown
  have hl : lv_has ls 3 [(0, .ref (aX 0)), (1, .int x1), (2, .int x2)] := hl
  unfold m_X5_host at h
  refine lv_aload_n hx hb dX5_host_0 rfl (lv_at hl 0 rfl) ?_
  refine va_get (D := G) (ci := 5) (v := .ref (aW 0)) (C := RX5) (T := TX5) (N := 11) hx hb hts fi_X5_host_X5 hown hEN.1 hP 0 rfl rfl 2 (by decide) (hts (.fieldLink RX5 20 "HourWell" "world" "LHourWell$World;") (List.mem_of_getElem? (i := 1) rfl)) (fun _ h9 => h9) rfl dX5_host_1 ?_
  refine lv_iload_n hx hb dX5_host_4 rfl (lv_at hl 1 rfl) ?_
  obtain ⟨o5, ho5, h⟩ := bnd_some h
  refine call_V0 (As := [.int x1]) (rest := []) ⟨hx, hb, hml, hown, hts⟩ (c_X4_hasHost l G cI cZ aW vW x1 o5 ho5) (cwV 1 hts gX5_host_X4_hasHost rfl rfl rfl hdV_X4_hasHost ⟨Nat.le_of_ble_eq_true rfl, Nat.le_of_ble_eq_true rfl⟩) hEN hA hP hD hS [1] rfl (by decide) 1 rfl rfl rfl hl.1 rfl (Nat.le_of_ble_eq_true rfl) dX5_host_5 ⟨Nat.le_of_ble_eq_true rfl, Nat.le_of_ble_eq_true rfl⟩ (fun H locs hP hS => ?_)
  refine lv_if_ne (tgt := 13) hx hb dX5_host_8 (by decide) (fun c8 => ?_) (fun c8 => ?_)
  · have h := (if_neg c8).symm.trans h
    refine lv_iload_n hx hb dX5_host_13 rfl (lv_at hl 2 rfl) ?_
    by_cases c14_0 : x2 = (0 : Int32)
    · have h := (if_pos c14_0).symm.trans h
      refine lv_tableIn (off := 26) (tgt := 40) hx hb dX5_host_14 (by rw [c14_0]; decide) (by rw [c14_0]; decide) (by rw [c14_0]; decide) (by decide) ?_
      refine lv_aload_n hx hb dX5_host_40 rfl (lv_at hl 0 rfl) ?_
      refine va_get (D := G) (ci := 5) (v := .ref (aW 0)) (C := RX5) (T := TX5) (N := 11) hx hb hts fi_X5_host_X5 hown hEN.1 hP 0 rfl rfl 2 (by decide) (hts (.fieldLink RX5 20 "HourWell" "world" "LHourWell$World;") (List.mem_of_getElem? (i := 1) rfl)) (fun _ h9 => h9) rfl dX5_host_41 ?_
      refine lv_iload_n hx hb dX5_host_44 rfl (lv_at hl 1 rfl) ?_
      obtain ⟨o45, ho45, h⟩ := bnd_some h
      refine call_V0 (As := [.int x1]) (rest := []) ⟨hx, hb, hml, hown, hts⟩ (c_X4_hostPlace l G cI cZ aW vW x1 o45 ho45) (cwV 1 hts gX5_host_X4_hostPlace rfl rfl rfl hdV_X4_hostPlace ⟨Nat.le_of_ble_eq_true rfl, Nat.le_of_ble_eq_true rfl⟩) hEN hA hP hD hS [1, 2] rfl (by decide) 1 rfl rfl rfl hl.1 rfl (Nat.le_of_ble_eq_true rfl) dX5_host_45 ⟨Nat.le_of_ble_eq_true rfl, Nat.le_of_ble_eq_true rfl⟩ (fun H locs hP hS => ?_)
      have hres := Option.some.inj h
      subst hres
      exact hRet 48 _ _ _ hP hD hS dX5_host_48
    · have h := (if_neg c14_0).symm.trans h
      by_cases c14_1 : x2 = (1 : Int32)
      · have h := (if_pos c14_1).symm.trans h
        refine lv_tableIn (off := 35) (tgt := 49) hx hb dX5_host_14 (by rw [c14_1]; decide) (by rw [c14_1]; decide) (by rw [c14_1]; decide) (by decide) ?_
        refine lv_aload_n hx hb dX5_host_49 rfl (lv_at hl 0 rfl) ?_
        refine va_get (D := G) (ci := 5) (v := .ref (aW 0)) (C := RX5) (T := TX5) (N := 11) hx hb hts fi_X5_host_X5 hown hEN.1 hP 0 rfl rfl 2 (by decide) (hts (.fieldLink RX5 20 "HourWell" "world" "LHourWell$World;") (List.mem_of_getElem? (i := 1) rfl)) (fun _ h9 => h9) rfl dX5_host_50 ?_
        refine lv_iload_n hx hb dX5_host_53 rfl (lv_at hl 1 rfl) ?_
        obtain ⟨o54, ho54, h⟩ := bnd_some h
        refine call_V0 (As := [.int x1]) (rest := []) ⟨hx, hb, hml, hown, hts⟩ (c_X4_hostGives l G cI cZ aW vW x1 o54 ho54) (cwV 1 hts gX5_host_X4_hostGives rfl rfl rfl hdV_X4_hostGives ⟨Nat.le_of_ble_eq_true rfl, Nat.le_of_ble_eq_true rfl⟩) hEN hA hP hD hS [1, 3] rfl (by decide) 1 rfl rfl rfl hl.1 rfl (Nat.le_of_ble_eq_true rfl) dX5_host_54 ⟨Nat.le_of_ble_eq_true rfl, Nat.le_of_ble_eq_true rfl⟩ (fun H locs hP hS => ?_)
        have hres := Option.some.inj h
        subst hres
        exact hRet 57 _ _ _ hP hD hS dX5_host_57
      · have h := (if_neg c14_1).symm.trans h
        by_cases c14_2 : x2 = (2 : Int32)
        · have h := (if_pos c14_2).symm.trans h
          refine lv_tableIn (off := 44) (tgt := 58) hx hb dX5_host_14 (by rw [c14_2]; decide) (by rw [c14_2]; decide) (by rw [c14_2]; decide) (by decide) ?_
          refine lv_aload_n hx hb dX5_host_58 rfl (lv_at hl 0 rfl) ?_
          refine va_get (D := G) (ci := 5) (v := .ref (aW 0)) (C := RX5) (T := TX5) (N := 11) hx hb hts fi_X5_host_X5 hown hEN.1 hP 0 rfl rfl 2 (by decide) (hts (.fieldLink RX5 20 "HourWell" "world" "LHourWell$World;") (List.mem_of_getElem? (i := 1) rfl)) (fun _ h9 => h9) rfl dX5_host_59 ?_
          refine lv_iload_n hx hb dX5_host_62 rfl (lv_at hl 1 rfl) ?_
          obtain ⟨o63, ho63, h⟩ := bnd_some h
          refine call_V0 (As := [.int x1]) (rest := []) ⟨hx, hb, hml, hown, hts⟩ (c_X4_hostAsks l G cI cZ aW vW x1 o63 ho63) (cwV 1 hts gX5_host_X4_hostAsks rfl rfl rfl hdV_X4_hostAsks ⟨Nat.le_of_ble_eq_true rfl, Nat.le_of_ble_eq_true rfl⟩) hEN hA hP hD hS [1, 4] rfl (by decide) 1 rfl rfl rfl hl.1 rfl (Nat.le_of_ble_eq_true rfl) dX5_host_63 ⟨Nat.le_of_ble_eq_true rfl, Nat.le_of_ble_eq_true rfl⟩ (fun H locs hP hS => ?_)
          have hres := Option.some.inj h
          subst hres
          exact hRet 66 _ _ _ hP hD hS dX5_host_66
        · have h := (if_neg c14_2).symm.trans h
          refine lv_tableOut (tgt := 67) hx hb dX5_host_14 (by have e0 := lv_neT c14_0 (a := 0) (by decide); have e1 := lv_neT c14_1 (a := 1) (by decide); have e2 := lv_neT c14_2 (a := 2) (by decide);  omega) (by decide) ?_
          refine lv_iconst (v := (-1 : Int32)) hx hb dX5_host_67 k_iconst_n1 ?_
          have hres := Option.some.inj h
          subst hres
          exact hRet 68 _ _ _ hP hD hS dX5_host_68
  · have h := (if_pos c8).symm.trans h
    refine lv_iconst (v := (-1 : Int32)) hx hb dX5_host_11 k_iconst_n1 ?_
    have hres := Option.some.inj h
    subst hres
    exact hRet 12 _ _ _ hP hD hS dX5_host_12
abbrev rm_X5_canWalk : Room := { frames := 3, cells := 0, slots := 0, locals := 67 }
theorem fi_X5_canWalk_X5 : ∀ w ∈ wsX50, w ∈ wsX5_canWalk := fun _ h => List.mem_cons_of_mem _ (List.mem_append_left _ (List.mem_append_left _ (List.mem_append_right _ h)))
theorem fi_X5_canWalk_X2 : ∀ w ∈ wsX20, w ∈ wsX5_canWalk := fun _ h => List.mem_cons_of_mem _ (List.mem_append_left _ (List.mem_append_right _ h))
theorem fi_X5_canWalk_X4 : ∀ w ∈ wsX40, w ∈ wsX5_canWalk := fun _ h => List.mem_cons_of_mem _ (List.mem_append_right _ h)
theorem hdV_X5_canWalk : yX5_canWalk.cls = RX5 ∧ yX5_canWalk.cls ≠ "java/lang/invoke/MethodHandle" ∧ yX5_canWalk.cls ≠ "java/lang/invoke/VarHandle" ∧ (parseMethodDescriptor yX5_canWalk.desc).map (fun d => d.parameters.length) = some 1 := by decide +kernel
set_option maxRecDepth 100000 in
set_option maxHeartbeats 4000000 in
theorem c_X5_canWalk (l : Launch) (G : va_G) (cI cZ : ClassId) (aX : Nat → Nat) (aR : Nat → Nat) (aY : Nat → Nat) (aC : Nat → Nat) (aW : Nat → Nat) (aD : Nat → Nat) (aS : Nat → Nat) (aI : Nat → Nat) (aJ : Nat → Nat) (vT : Int64) (vX : Ob) (vW : Ob) (vS : Ob) (x1 : Int32) (res : Int32) (h : m_X5_canWalk vX vW vS x1 = some res) : Ct l yX5_canWalk wsX5_canWalk rm_X5_canWalk G cI cZ [.ref (aX 0), .int x1] [oX5 aX aW aD aR aS aI aJ aY aC vX vT, oX4 aW vW, ai cI (aW 5) 7 (vW 5), ai cI (aW 6) 7 (vW 6), ai cI (aW 7) 7 (vW 7), ai cI (aW 8) 9 (vW 8), ai cI (aW 9) 9 (vW 9), ai cI (aW 10) 9 (vW 10), oX2 aS vS] (some (.int res)) [oX5 aX aW aD aR aS aI aJ aY aC vX vT, oX4 aW vW, ai cI (aW 5) 7 (vW 5), ai cI (aW 6) 7 (vW 6), ai cI (aW 7) 7 (vW 7), ai cI (aW 8) 9 (vW 8), ai cI (aW 9) 9 (vW 9), ai cI (aW 10) 9 (vW 10), oX2 aS vS] := by
  refine Ct.of_z (maxL := 4) (by decide) rfl (Nat.le_of_ble_eq_true rfl) ?_
  intro p e s m below meth c args hx hb hml hown hts A hA hEN hP hD hS Q hRet ls hl
  have hown : s.vm.findClass RX5 = some m.cls := hown
  have hl : lv_has ls 4 [(0, .ref (aX 0)), (1, .int x1)] := hl
  unfold m_X5_canWalk at h
  refine lv_aload_n hx hb dX5_canWalk_0 rfl (lv_at hl 0 rfl) ?_
  refine va_get (D := G) (ci := 5) (v := .ref (aW 0)) (C := RX5) (T := TX5) (N := 11) hx hb hts fi_X5_canWalk_X5 hown hEN.1 hP 0 rfl rfl 2 (by decide) (hts (.fieldLink RX5 20 "HourWell" "world" "LHourWell$World;") (List.mem_of_getElem? (i := 1) rfl)) (fun _ h9 => h9) rfl dX5_canWalk_1 ?_
  refine lv_iload_n hx hb dX5_canWalk_4 rfl (lv_at hl 1 rfl) ?_
  refine lv_aload_n hx hb dX5_canWalk_5 rfl (lv_at hl 0 rfl) ?_
  refine va_get (D := G) (ci := 5) (v := .ref (aS 0)) (C := RX5) (T := TX5) (N := 11) hx hb hts fi_X5_canWalk_X5 hown hEN.1 hP 0 rfl rfl 5 (by decide) (hts (.fieldLink RX5 39 "HourWell" "son" "LHourWell$Son;") (List.mem_of_getElem? (i := 2) rfl)) (fun _ h9 => h9) rfl dX5_canWalk_6 ?_
  refine va_get (D := G) (ci := 2) (v := .int (vS 0 0)) (C := RX2) (T := TX2) (N := 8) hx hb hts fi_X5_canWalk_X2 hown hEN.1 hP 8 rfl rfl 0 (by decide) (hts (.fieldLink RX5 134 "HourWell$Son" "place" "I") (List.mem_of_getElem? (i := 3) rfl)) (fun _ h9 => h9) rfl dX5_canWalk_9 ?_
  obtain ⟨o12, ho12, h⟩ := bnd_some h
  refine call_V0 (As := [.int x1, .int (vS 0 0)]) (rest := []) ⟨hx, hb, hml, hown, hts⟩ (c_X4_farEnd l G cI cZ aW vW x1 (vS 0 0) o12 ho12) (cwV 2 hts gX5_canWalk_X4_farEnd rfl rfl rfl hdV_X4_farEnd ⟨Nat.le_of_ble_eq_true rfl, Nat.le_of_ble_eq_true rfl⟩) hEN hA hP hD hS [1, 5, 6] rfl (by decide) 1 rfl rfl rfl hl.1 rfl (Nat.le_of_ble_eq_true rfl) dX5_canWalk_12 ⟨Nat.le_of_ble_eq_true rfl, Nat.le_of_ble_eq_true rfl⟩ (fun H locs hP hS => ?_)
  refine lv_istore_n (lv' := [(2, .int o12), (0, .ref (aX 0)), (1, .int x1)]) hx hb dX5_canWalk_15 rfl hl (by decide) rfl (fun ls hl => ?_)
  refine lv_aload_n hx hb dX5_canWalk_16 rfl (lv_at hl 1 rfl) ?_
  refine va_get (D := G) (ci := 5) (v := .ref (aS 0)) (C := RX5) (T := TX5) (N := 11) hx hb hts fi_X5_canWalk_X5 hown hEN.1 hP 0 rfl rfl 5 (by decide) (hts (.fieldLink RX5 39 "HourWell" "son" "LHourWell$Son;") (List.mem_of_getElem? (i := 2) rfl)) (fun _ h9 => h9) rfl dX5_canWalk_17 ?_
  refine va_get (D := G) (ci := 2) (v := .int (vS 0 1)) (C := RX2) (T := TX2) (N := 8) hx hb hts fi_X5_canWalk_X2 hown hEN.1 hP 8 rfl rfl 1 (by decide) (hts (.fieldLink RX5 144 "HourWell$Son" "hour" "I") (List.mem_of_getElem? (i := 4) rfl)) (fun _ h9 => h9) rfl dX5_canWalk_20 ?_
  refine lv_aload_n hx hb dX5_canWalk_23 rfl (lv_at hl 1 rfl) ?_
  refine va_get (D := G) (ci := 5) (v := .ref (aW 0)) (C := RX5) (T := TX5) (N := 11) hx hb hts fi_X5_canWalk_X5 hown hEN.1 hP 0 rfl rfl 2 (by decide) (hts (.fieldLink RX5 20 "HourWell" "world" "LHourWell$World;") (List.mem_of_getElem? (i := 1) rfl)) (fun _ h9 => h9) rfl dX5_canWalk_24 ?_
  refine lv_iload_n hx hb dX5_canWalk_27 rfl (lv_at hl 2 rfl) ?_
  obtain ⟨o28, ho28, h⟩ := bnd_some h
  refine call_V0 (As := [.int x1]) (rest := [.int (vS 0 1)]) ⟨hx, hb, hml, hown, hts⟩ (c_X4_roadHours l G cI cZ aW vW x1 o28 ho28) (cwV 1 hts gX5_canWalk_X4_roadHours rfl rfl rfl hdV_X4_roadHours ⟨Nat.le_of_ble_eq_true rfl, Nat.le_of_ble_eq_true rfl⟩) hEN hA hP hD hS [1, 7] rfl (by decide) 1 rfl rfl rfl hl.1 rfl (Nat.le_of_ble_eq_true rfl) dX5_canWalk_28 ⟨Nat.le_of_ble_eq_true rfl, Nat.le_of_ble_eq_true rfl⟩ (fun H locs hP hS => ?_)
  refine lv_iadd hx hb dX5_canWalk_31 ?_
  refine lv_istore_n (lv' := [(3, .int ((vS 0 1) + o28)), (2, .int o12), (0, .ref (aX 0)), (1, .int x1)]) hx hb dX5_canWalk_32 rfl hl (by decide) rfl (fun ls hl => ?_)
  refine lv_iload_n hx hb dX5_canWalk_33 rfl (lv_at hl 1 rfl) ?_
  refine lv_bipush (v := (-9 : Int32)) hx hb dX5_canWalk_34 k_bipush_n9 ?_
  refine lv_icmp_eq (tgt := 69) hx hb dX5_canWalk_36 (by decide) (fun c36 => ?_) (fun c36 => ?_)
  · have h := (if_pos c36).symm.trans h
    refine lv_iconst (v := (0 : Int32)) hx hb dX5_canWalk_69 k_iconst_0 ?_
    have hres := Option.some.inj h
    subst hres
    exact hRet 70 nz0 _ _ _ hP hD hS dX5_canWalk_70
  · have h := (if_neg c36).symm.trans h
    refine lv_iload_n hx hb dX5_canWalk_39 rfl (lv_at hl 0 rfl) ?_
    refine lv_sipush (v := (9999 : Int32)) hx hb dX5_canWalk_40 k_sipush_9999 ?_
    refine lv_icmp_gt (tgt := 69) hx hb dX5_canWalk_43 (by decide) (fun c43 => ?_) (fun c43 => ?_)
    · have h := (if_pos c43).symm.trans h
      refine lv_iconst (v := (0 : Int32)) hx hb dX5_canWalk_69 k_iconst_0 ?_
      have hres := Option.some.inj h
      subst hres
      exact hRet 70 nz0 _ _ _ hP hD hS dX5_canWalk_70
    · have h := (if_neg c43).symm.trans h
      refine lv_aload_n hx hb dX5_canWalk_46 rfl (lv_at hl 2 rfl) ?_
      refine va_get (D := G) (ci := 5) (v := .ref (aW 0)) (C := RX5) (T := TX5) (N := 11) hx hb hts fi_X5_canWalk_X5 hown hEN.1 hP 0 rfl rfl 2 (by decide) (hts (.fieldLink RX5 20 "HourWell" "world" "LHourWell$World;") (List.mem_of_getElem? (i := 1) rfl)) (fun _ h9 => h9) rfl dX5_canWalk_47 ?_
      refine lv_iload_n hx hb dX5_canWalk_50 rfl (lv_at hl 1 rfl) ?_
      refine lv_iload_n hx hb dX5_canWalk_51 rfl (lv_at hl 0 rfl) ?_
      refine lv_aload_n hx hb dX5_canWalk_52 rfl (lv_at hl 2 rfl) ?_
      refine va_get (D := G) (ci := 5) (v := .ref (aS 0)) (C := RX5) (T := TX5) (N := 11) hx hb hts fi_X5_canWalk_X5 hown hEN.1 hP 0 rfl rfl 5 (by decide) (hts (.fieldLink RX5 39 "HourWell" "son" "LHourWell$Son;") (List.mem_of_getElem? (i := 2) rfl)) (fun _ h9 => h9) rfl dX5_canWalk_53 ?_
      refine va_get (D := G) (ci := 2) (v := .int (vS 0 2)) (C := RX2) (T := TX2) (N := 8) hx hb hts fi_X5_canWalk_X2 hown hEN.1 hP 8 rfl rfl 2 (by decide) (hts (.fieldLink RX5 147 "HourWell$Son" "things" "I") (List.mem_of_getElem? (i := 5) rfl)) (fun _ h9 => h9) rfl dX5_canWalk_56 ?_
      obtain ⟨o59, ho59, h⟩ := bnd_some h
      refine call_V0 (As := [.int o12, .int ((vS 0 1) + o28), .int (vS 0 2)]) (rest := []) ⟨hx, hb, hml, hown, hts⟩ (c_X4_letsIn l G cI cZ aW vW o12 ((vS 0 1) + o28) (vS 0 2) o59 ho59) (cwV 3 hts gX5_canWalk_X4_letsIn rfl rfl rfl hdV_X4_letsIn ⟨Nat.le_of_ble_eq_true rfl, Nat.le_of_ble_eq_true rfl⟩) hEN hA hP hD hS [1, 2, 3, 4] rfl (by decide) 1 rfl rfl rfl hl.1 rfl (Nat.le_of_ble_eq_true rfl) dX5_canWalk_59 ⟨Nat.le_of_ble_eq_true rfl, Nat.le_of_ble_eq_true rfl⟩ (fun H locs hP hS => ?_)
      refine lv_if_eq (tgt := 69) hx hb dX5_canWalk_62 (by decide) (fun c62 => ?_) (fun c62 => ?_)
      · have h := (if_pos c62).symm.trans h
        refine lv_iconst (v := (0 : Int32)) hx hb dX5_canWalk_69 k_iconst_0 ?_
        have hres := Option.some.inj h
        subst hres
        exact hRet 70 nz0 _ _ _ hP hD hS dX5_canWalk_70
      · have h := (if_neg c62).symm.trans h
        refine lv_iconst (v := (1 : Int32)) hx hb dX5_canWalk_65 k_iconst_1 ?_
        refine lv_goto (tgt := 70) hx hb dX5_canWalk_66 (by decide) ?_
        have hres := Option.some.inj h
        subst hres
        exact hRet 70 nz1 _ _ _ hP hD hS dX5_canWalk_70
abbrev rm_X5_walks : Room := { frames := 4, cells := 0, slots := 0, locals := 90 }
theorem fi_X5_walks_X5 : ∀ w ∈ wsX50, w ∈ wsX5_walks := fun _ h => List.mem_cons_of_mem _ (List.mem_append_left _ (List.mem_append_left _ (List.mem_append_right _ h)))
theorem fi_X5_walks_X2 : ∀ w ∈ wsX20, w ∈ wsX5_walks := fun _ h => List.mem_cons_of_mem _ (List.mem_append_left _ (List.mem_append_right _ h))
theorem fi_X5_walks_X4 : ∀ w ∈ wsX40, w ∈ wsX5_walks := fun _ h => List.mem_cons_of_mem _ (List.mem_append_right _ h)
theorem hdV_X5_walks : yX5_walks.cls = RX5 ∧ yX5_walks.cls ≠ "java/lang/invoke/MethodHandle" ∧ yX5_walks.cls ≠ "java/lang/invoke/VarHandle" ∧ (parseMethodDescriptor yX5_walks.desc).map (fun d => d.parameters.length) = some 1 := by decide +kernel
set_option maxRecDepth 100000 in
set_option maxHeartbeats 4000000 in
theorem c_X5_walks (l : Launch) (G : va_G) (cI cZ : ClassId) (aX : Nat → Nat) (aR : Nat → Nat) (aY : Nat → Nat) (aC : Nat → Nat) (aW : Nat → Nat) (aD : Nat → Nat) (aS : Nat → Nat) (aI : Nat → Nat) (aJ : Nat → Nat) (vT : Int64) (vX : Ob) (vW : Ob) (vS : Ob) (x1 : Int32) (res : Int32 × Ob) (h : m_X5_walks vX vW vS x1 = some res) : Ct l yX5_walks wsX5_walks rm_X5_walks G cI cZ [.ref (aX 0), .int x1] [oX5 aX aW aD aR aS aI aJ aY aC vX vT, oX4 aW vW, ai cI (aW 5) 7 (vW 5), ai cI (aW 6) 7 (vW 6), ai cI (aW 7) 7 (vW 7), ai cI (aW 8) 9 (vW 8), ai cI (aW 9) 9 (vW 9), ai cI (aW 10) 9 (vW 10), oX2 aS vS, ai cI (aS 6) 12 (vS 6), ai cI (aS 7) 12 (vS 7), ai cI (aS 8) 12 (vS 8)] (some (.int res.1)) [oX5 aX aW aD aR aS aI aJ aY aC vX vT, oX4 aW vW, ai cI (aW 5) 7 (vW 5), ai cI (aW 6) 7 (vW 6), ai cI (aW 7) 7 (vW 7), ai cI (aW 8) 9 (vW 8), ai cI (aW 9) 9 (vW 9), ai cI (aW 10) 9 (vW 10), oX2 aS res.2, ai cI (aS 6) 12 (res.2 6), ai cI (aS 7) 12 (res.2 7), ai cI (aS 8) 12 (res.2 8)] := by
  refine Ct.of_i (maxL := 3) (by decide) rfl (Nat.le_of_ble_eq_true rfl) ?_
  intro p e s m below meth c args hx hb hml hown hts A hA hEN hP hD hS Q hRet ls hl
  have hown : s.vm.findClass RX5 = some m.cls := hown
  have hl : lv_has ls 3 [(0, .ref (aX 0)), (1, .int x1)] := hl
  unfold m_X5_walks at h
  refine lv_aload_n hx hb dX5_walks_0 rfl (lv_at hl 0 rfl) ?_
  refine va_get (D := G) (ci := 5) (v := .ref (aW 0)) (C := RX5) (T := TX5) (N := 11) hx hb hts fi_X5_walks_X5 hown hEN.1 hP 0 rfl rfl 2 (by decide) (hts (.fieldLink RX5 20 "HourWell" "world" "LHourWell$World;") (List.mem_of_getElem? (i := 1) rfl)) (fun _ h9 => h9) rfl dX5_walks_1 ?_
  refine lv_iload_n hx hb dX5_walks_4 rfl (lv_at hl 1 rfl) ?_
  obtain ⟨o5, ho5, h⟩ := bnd_some h
  refine call_V0 (As := [.int x1]) (rest := []) ⟨hx, hb, hml, hown, hts⟩ (c_X4_hasRoad l G cI cZ aW vW x1 o5 ho5) (cwV 1 hts gX5_walks_X4_hasRoad rfl rfl rfl hdV_X4_hasRoad ⟨Nat.le_of_ble_eq_true rfl, Nat.le_of_ble_eq_true rfl⟩) hEN hA hP hD hS [1] rfl (by decide) 1 rfl rfl rfl hl.1 rfl (Nat.le_of_ble_eq_true rfl) dX5_walks_5 ⟨Nat.le_of_ble_eq_true rfl, Nat.le_of_ble_eq_true rfl⟩ (fun H locs hP hS => ?_)
  refine lv_if_ne (tgt := 13) hx hb dX5_walks_8 (by decide) (fun c8 => ?_) (fun c8 => ?_)
  · have h := (if_neg c8).symm.trans h
    refine lv_aload_n hx hb dX5_walks_13 rfl (lv_at hl 0 rfl) ?_
    refine lv_iload_n hx hb dX5_walks_14 rfl (lv_at hl 1 rfl) ?_
    obtain ⟨o15, ho15, h⟩ := bnd_some h
    refine call_V0 (As := [.int x1]) (rest := []) ⟨hx, hb, hml, hown, hts⟩ (c_X5_canWalk l G cI cZ aX aR aY aC aW aD aS aI aJ vT vX vW vS x1 o15 ho15) (cwV 1 hts gX5_walks_X5_canWalk rfl rfl rfl hdV_X5_canWalk ⟨Nat.le_of_ble_eq_true rfl, Nat.le_of_ble_eq_true rfl⟩) hEN hA hP hD hS [0, 1, 2, 3, 4, 5, 6, 7, 8] rfl (by decide) 0 rfl rfl rfl hl.1 rfl (Nat.le_of_ble_eq_true rfl) dX5_walks_15 ⟨Nat.le_of_ble_eq_true rfl, Nat.le_of_ble_eq_true rfl⟩ (fun H locs hP hS => ?_)
    refine lv_if_ne (tgt := 24) hx hb dX5_walks_18 (by decide) (fun c18 => ?_) (fun c18 => ?_)
    · have h := (if_neg c18).symm.trans h
      refine lv_aload_n hx hb dX5_walks_24 rfl (lv_at hl 0 rfl) ?_
      refine va_get (D := G) (ci := 5) (v := .ref (aW 0)) (C := RX5) (T := TX5) (N := 11) hx hb hts fi_X5_walks_X5 hown hEN.1 hP 0 rfl rfl 2 (by decide) (hts (.fieldLink RX5 20 "HourWell" "world" "LHourWell$World;") (List.mem_of_getElem? (i := 1) rfl)) (fun _ h9 => h9) rfl dX5_walks_25 ?_
      refine lv_iload_n hx hb dX5_walks_28 rfl (lv_at hl 1 rfl) ?_
      refine lv_aload_n hx hb dX5_walks_29 rfl (lv_at hl 0 rfl) ?_
      refine va_get (D := G) (ci := 5) (v := .ref (aS 0)) (C := RX5) (T := TX5) (N := 11) hx hb hts fi_X5_walks_X5 hown hEN.1 hP 0 rfl rfl 5 (by decide) (hts (.fieldLink RX5 39 "HourWell" "son" "LHourWell$Son;") (List.mem_of_getElem? (i := 2) rfl)) (fun _ h9 => h9) rfl dX5_walks_30 ?_
      refine va_get (D := G) (ci := 2) (v := .int (vS 0 0)) (C := RX2) (T := TX2) (N := 8) hx hb hts fi_X5_walks_X2 hown hEN.1 hP 8 rfl rfl 0 (by decide) (hts (.fieldLink RX5 134 "HourWell$Son" "place" "I") (List.mem_of_getElem? (i := 3) rfl)) (fun _ h9 => h9) rfl dX5_walks_33 ?_
      obtain ⟨o36, ho36, h⟩ := bnd_some h
      refine call_V0 (As := [.int x1, .int (vS 0 0)]) (rest := []) ⟨hx, hb, hml, hown, hts⟩ (c_X4_farEnd l G cI cZ aW vW x1 (vS 0 0) o36 ho36) (cwV 2 hts gX5_walks_X4_farEnd rfl rfl rfl hdV_X4_farEnd ⟨Nat.le_of_ble_eq_true rfl, Nat.le_of_ble_eq_true rfl⟩) hEN hA hP hD hS [1, 5, 6] rfl (by decide) 1 rfl rfl rfl hl.1 rfl (Nat.le_of_ble_eq_true rfl) dX5_walks_36 ⟨Nat.le_of_ble_eq_true rfl, Nat.le_of_ble_eq_true rfl⟩ (fun H locs hP hS => ?_)
      refine lv_istore_n (lv' := [(2, .int o36), (0, .ref (aX 0)), (1, .int x1)]) hx hb dX5_walks_39 rfl hl (by decide) rfl (fun ls hl => ?_)
      refine lv_aload_n hx hb dX5_walks_40 rfl (lv_at hl 1 rfl) ?_
      refine va_get (D := G) (ci := 5) (v := .ref (aS 0)) (C := RX5) (T := TX5) (N := 11) hx hb hts fi_X5_walks_X5 hown hEN.1 hP 0 rfl rfl 5 (by decide) (hts (.fieldLink RX5 39 "HourWell" "son" "LHourWell$Son;") (List.mem_of_getElem? (i := 2) rfl)) (fun _ h9 => h9) rfl dX5_walks_41 ?_
      obtain ⟨o44, ho44, h⟩ := bnd_some h
      refine call_VJ (wr := [oX5 aX aW aD aR aS aI aJ aY aC vX vT, oX4 aW vW, ai cI (aW 5) 7 (vW 5), ai cI (aW 6) 7 (vW 6), ai cI (aW 7) 7 (vW 7), ai cI (aW 8) 9 (vW 8), ai cI (aW 9) 9 (vW 9), ai cI (aW 10) 9 (vW 10)]) (As := []) (rest := []) ⟨hx, hb, hml, hown, hts⟩ (c_X2_remember l G cI cZ aS vS o44 ho44) (cwV 0 hts gX5_walks_X2_remember rfl rfl rfl hdV_X2_remember ⟨Nat.le_of_ble_eq_true rfl, Nat.le_of_ble_eq_true rfl⟩) hEN hA hP hD hS [8, 9, 10, 11] [0, 1, 2, 3, 4, 5, 6, 7] rfl (by decide) rfl (by decide) (by decide) 8 rfl rfl rfl hl.1 rfl (Nat.le_of_ble_eq_true rfl) dX5_walks_44 ⟨Nat.le_of_ble_eq_true rfl, Nat.le_of_ble_eq_true rfl⟩ (fun H locs hP hD hS => ?_)
      have hP : va_P G vwCl [oX5 aX aW aD aR aS aI aJ aY aC vX vT, oX4 aW vW, ai cI (aW 5) 7 (vW 5), ai cI (aW 6) 7 (vW 6), ai cI (aW 7) 7 (vW 7), ai cI (aW 8) 9 (vW 8), ai cI (aW 9) 9 (vW 9), ai cI (aW 10) 9 (vW 10), oX2 aS o44, ai cI (aS 6) 12 (o44 6), ai cI (aS 7) 12 (o44 7), ai cI (aS 8) 12 (o44 8)] H := hP
      have hD : va_D A [oX5 aX aW aD aR aS aI aJ aY aC vX vT, oX4 aW vW, ai cI (aW 5) 7 (vW 5), ai cI (aW 6) 7 (vW 6), ai cI (aW 7) 7 (vW 7), ai cI (aW 8) 9 (vW 8), ai cI (aW 9) 9 (vW 9), ai cI (aW 10) 9 (vW 10), oX2 aS o44, ai cI (aS 6) 12 (o44 6), ai cI (aS 7) 12 (o44 7), ai cI (aS 8) 12 (o44 8)] := hD
      refine lv_aload_n hx hb dX5_walks_47 rfl (lv_at hl 1 rfl) ?_
      refine va_get (D := G) (ci := 5) (v := .ref (aS 0)) (C := RX5) (T := TX5) (N := 11) hx hb hts fi_X5_walks_X5 hown hEN.1 hP 0 rfl rfl 5 (by decide) (hts (.fieldLink RX5 39 "HourWell" "son" "LHourWell$Son;") (List.mem_of_getElem? (i := 2) rfl)) (fun _ h9 => h9) rfl dX5_walks_48 ?_
      refine lv_iload_n hx hb dX5_walks_51 rfl (lv_at hl 0 rfl) ?_
      refine va_put (D := G) (ci := 2) (v := .int o36) (ty := .int) (C := RX2) (T := TX2) (N := 8) hx hb hts fi_X5_walks_X2 tyX2 tyX2_ok nmX2 hown hEN.1 hP hD hS 8 rfl rfl 0 (by decide) (hts (.fieldLink RX5 134 "HourWell$Son" "place" "I") (List.mem_of_getElem? (i := 3) rfl)) (fun _ h9 => h9) rfl (by decide +kernel) rfl rfl (Nat.le_of_ble_eq_true rfl) dX5_walks_52 (fun H locs hP hD hS => ?_)
      have hP : va_P G vwCl [oX5 aX aW aD aR aS aI aJ aY aC vX vT, oX4 aW vW, ai cI (aW 5) 7 (vW 5), ai cI (aW 6) 7 (vW 6), ai cI (aW 7) 7 (vW 7), ai cI (aW 8) 9 (vW 8), ai cI (aW 9) 9 (vW 9), ai cI (aW 10) 9 (vW 10), oX2 aS (st o44 0 0 o36), ai cI (aS 6) 12 (o44 6), ai cI (aS 7) 12 (o44 7), ai cI (aS 8) 12 (o44 8)] H := hP
      have hD : va_D A [oX5 aX aW aD aR aS aI aJ aY aC vX vT, oX4 aW vW, ai cI (aW 5) 7 (vW 5), ai cI (aW 6) 7 (vW 6), ai cI (aW 7) 7 (vW 7), ai cI (aW 8) 9 (vW 8), ai cI (aW 9) 9 (vW 9), ai cI (aW 10) 9 (vW 10), oX2 aS (st o44 0 0 o36), ai cI (aS 6) 12 (o44 6), ai cI (aS 7) 12 (o44 7), ai cI (aS 8) 12 (o44 8)] := hD
      refine lv_aload_n hx hb dX5_walks_55 rfl (lv_at hl 1 rfl) ?_
      refine va_get (D := G) (ci := 5) (v := .ref (aS 0)) (C := RX5) (T := TX5) (N := 11) hx hb hts fi_X5_walks_X5 hown hEN.1 hP 0 rfl rfl 5 (by decide) (hts (.fieldLink RX5 39 "HourWell" "son" "LHourWell$Son;") (List.mem_of_getElem? (i := 2) rfl)) (fun _ h9 => h9) rfl dX5_walks_56 ?_
      refine lv_dup hx hb dX5_walks_59 rfl ?_
      refine va_get (D := G) (ci := 2) (v := .int (o44 0 1)) (C := RX2) (T := TX2) (N := 8) hx hb hts fi_X5_walks_X2 hown hEN.1 hP 8 rfl rfl 1 (by decide) (hts (.fieldLink RX5 144 "HourWell$Son" "hour" "I") (List.mem_of_getElem? (i := 4) rfl)) (fun _ h9 => h9) rfl dX5_walks_60 ?_
      refine lv_aload_n hx hb dX5_walks_63 rfl (lv_at hl 1 rfl) ?_
      refine va_get (D := G) (ci := 5) (v := .ref (aW 0)) (C := RX5) (T := TX5) (N := 11) hx hb hts fi_X5_walks_X5 hown hEN.1 hP 0 rfl rfl 2 (by decide) (hts (.fieldLink RX5 20 "HourWell" "world" "LHourWell$World;") (List.mem_of_getElem? (i := 1) rfl)) (fun _ h9 => h9) rfl dX5_walks_64 ?_
      refine lv_iload_n hx hb dX5_walks_67 rfl (lv_at hl 2 rfl) ?_
      obtain ⟨o68, ho68, h⟩ := bnd_some h
      refine call_V0 (As := [.int x1]) (rest := [.int (o44 0 1), .ref (aS 0)]) ⟨hx, hb, hml, hown, hts⟩ (c_X4_roadHours l G cI cZ aW vW x1 o68 ho68) (cwV 1 hts gX5_walks_X4_roadHours rfl rfl rfl hdV_X4_roadHours ⟨Nat.le_of_ble_eq_true rfl, Nat.le_of_ble_eq_true rfl⟩) hEN hA hP hD hS [1, 7] rfl (by decide) 1 rfl rfl rfl hl.1 rfl (Nat.le_of_ble_eq_true rfl) dX5_walks_68 ⟨Nat.le_of_ble_eq_true rfl, Nat.le_of_ble_eq_true rfl⟩ (fun H locs hP hS => ?_)
      refine lv_iadd hx hb dX5_walks_71 ?_
      refine va_put (D := G) (ci := 2) (v := .int ((o44 0 1) + o68)) (ty := .int) (C := RX2) (T := TX2) (N := 8) hx hb hts fi_X5_walks_X2 tyX2 tyX2_ok nmX2 hown hEN.1 hP hD hS 8 rfl rfl 1 (by decide) (hts (.fieldLink RX5 144 "HourWell$Son" "hour" "I") (List.mem_of_getElem? (i := 4) rfl)) (fun _ h9 => h9) rfl (by decide +kernel) rfl rfl (Nat.le_of_ble_eq_true rfl) dX5_walks_72 (fun H locs hP hD hS => ?_)
      have hP : va_P G vwCl [oX5 aX aW aD aR aS aI aJ aY aC vX vT, oX4 aW vW, ai cI (aW 5) 7 (vW 5), ai cI (aW 6) 7 (vW 6), ai cI (aW 7) 7 (vW 7), ai cI (aW 8) 9 (vW 8), ai cI (aW 9) 9 (vW 9), ai cI (aW 10) 9 (vW 10), oX2 aS (st (st o44 0 0 o36) 0 1 ((o44 0 1) + o68)), ai cI (aS 6) 12 (o44 6), ai cI (aS 7) 12 (o44 7), ai cI (aS 8) 12 (o44 8)] H := hP
      have hD : va_D A [oX5 aX aW aD aR aS aI aJ aY aC vX vT, oX4 aW vW, ai cI (aW 5) 7 (vW 5), ai cI (aW 6) 7 (vW 6), ai cI (aW 7) 7 (vW 7), ai cI (aW 8) 9 (vW 8), ai cI (aW 9) 9 (vW 9), ai cI (aW 10) 9 (vW 10), oX2 aS (st (st o44 0 0 o36) 0 1 ((o44 0 1) + o68)), ai cI (aS 6) 12 (o44 6), ai cI (aS 7) 12 (o44 7), ai cI (aS 8) 12 (o44 8)] := hD
      refine lv_aload_n hx hb dX5_walks_75 rfl (lv_at hl 1 rfl) ?_
      refine va_get (D := G) (ci := 5) (v := .ref (aS 0)) (C := RX5) (T := TX5) (N := 11) hx hb hts fi_X5_walks_X5 hown hEN.1 hP 0 rfl rfl 5 (by decide) (hts (.fieldLink RX5 39 "HourWell" "son" "LHourWell$Son;") (List.mem_of_getElem? (i := 2) rfl)) (fun _ h9 => h9) rfl dX5_walks_76 ?_
      refine lv_aload_n hx hb dX5_walks_79 rfl (lv_at hl 1 rfl) ?_
      refine va_get (D := G) (ci := 5) (v := .ref (aW 0)) (C := RX5) (T := TX5) (N := 11) hx hb hts fi_X5_walks_X5 hown hEN.1 hP 0 rfl rfl 2 (by decide) (hts (.fieldLink RX5 20 "HourWell" "world" "LHourWell$World;") (List.mem_of_getElem? (i := 1) rfl)) (fun _ h9 => h9) rfl dX5_walks_80 ?_
      refine lv_iload_n hx hb dX5_walks_83 rfl (lv_at hl 0 rfl) ?_
      refine lv_aload_n hx hb dX5_walks_84 rfl (lv_at hl 1 rfl) ?_
      refine va_get (D := G) (ci := 5) (v := .ref (aS 0)) (C := RX5) (T := TX5) (N := 11) hx hb hts fi_X5_walks_X5 hown hEN.1 hP 0 rfl rfl 5 (by decide) (hts (.fieldLink RX5 39 "HourWell" "son" "LHourWell$Son;") (List.mem_of_getElem? (i := 2) rfl)) (fun _ h9 => h9) rfl dX5_walks_85 ?_
      refine va_get (D := G) (ci := 2) (v := .int (o44 0 2)) (C := RX2) (T := TX2) (N := 8) hx hb hts fi_X5_walks_X2 hown hEN.1 hP 8 rfl rfl 2 (by decide) (hts (.fieldLink RX5 147 "HourWell$Son" "things" "I") (List.mem_of_getElem? (i := 5) rfl)) (fun _ h9 => h9) rfl dX5_walks_88 ?_
      obtain ⟨o91, ho91, h⟩ := bnd_some h
      refine call_V0 (As := [.int o36, .int (o44 0 2)]) (rest := [.ref (aS 0)]) ⟨hx, hb, hml, hown, hts⟩ (c_X4_thingsInside l G cI cZ aW vW o36 (o44 0 2) o91 ho91) (cwV 2 hts gX5_walks_X4_thingsInside rfl rfl rfl hdV_X4_thingsInside ⟨Nat.le_of_ble_eq_true rfl, Nat.le_of_ble_eq_true rfl⟩) hEN hA hP hD hS [1, 2] rfl (by decide) 1 rfl rfl rfl hl.1 rfl (Nat.le_of_ble_eq_true rfl) dX5_walks_91 ⟨Nat.le_of_ble_eq_true rfl, Nat.le_of_ble_eq_true rfl⟩ (fun H locs hP hS => ?_)
      refine va_put (D := G) (ci := 2) (v := .int o91) (ty := .int) (C := RX2) (T := TX2) (N := 8) hx hb hts fi_X5_walks_X2 tyX2 tyX2_ok nmX2 hown hEN.1 hP hD hS 8 rfl rfl 2 (by decide) (hts (.fieldLink RX5 147 "HourWell$Son" "things" "I") (List.mem_of_getElem? (i := 5) rfl)) (fun _ h9 => h9) rfl (by decide +kernel) rfl rfl (Nat.le_of_ble_eq_true rfl) dX5_walks_94 (fun H locs hP hD hS => ?_)
      have hP : va_P G vwCl [oX5 aX aW aD aR aS aI aJ aY aC vX vT, oX4 aW vW, ai cI (aW 5) 7 (vW 5), ai cI (aW 6) 7 (vW 6), ai cI (aW 7) 7 (vW 7), ai cI (aW 8) 9 (vW 8), ai cI (aW 9) 9 (vW 9), ai cI (aW 10) 9 (vW 10), oX2 aS (st (st (st o44 0 0 o36) 0 1 ((o44 0 1) + o68)) 0 2 o91), ai cI (aS 6) 12 (o44 6), ai cI (aS 7) 12 (o44 7), ai cI (aS 8) 12 (o44 8)] H := hP
      have hD : va_D A [oX5 aX aW aD aR aS aI aJ aY aC vX vT, oX4 aW vW, ai cI (aW 5) 7 (vW 5), ai cI (aW 6) 7 (vW 6), ai cI (aW 7) 7 (vW 7), ai cI (aW 8) 9 (vW 8), ai cI (aW 9) 9 (vW 9), ai cI (aW 10) 9 (vW 10), oX2 aS (st (st (st o44 0 0 o36) 0 1 ((o44 0 1) + o68)) 0 2 o91), ai cI (aS 6) 12 (o44 6), ai cI (aS 7) 12 (o44 7), ai cI (aS 8) 12 (o44 8)] := hD
      refine lv_iload_n hx hb dX5_walks_97 rfl (lv_at hl 0 rfl) ?_
      have hres := Option.some.inj h
      subst hres
      exact hRet 98 _ _ _ hP hD hS dX5_walks_98
    · have h := (if_pos c18).symm.trans h
      refine lv_bipush (v := (-2 : Int32)) hx hb dX5_walks_21 k_bipush_n2 ?_
      have hres := Option.some.inj h
      subst hres
      exact hRet 23 _ _ _ hP hD hS dX5_walks_23
  · have h := (if_pos c8).symm.trans h
    refine lv_iconst (v := (-1 : Int32)) hx hb dX5_walks_11 k_iconst_n1 ?_
    have hres := Option.some.inj h
    subst hres
    exact hRet 12 _ _ _ hP hD hS dX5_walks_12
abbrev rm_X5_waits : Room := { frames := 3, cells := 0, slots := 0, locals := 66 }
theorem fi_X5_waits_X5 : ∀ w ∈ wsX50, w ∈ wsX5_waits := fun _ h => List.mem_cons_of_mem _ (List.mem_append_left _ (List.mem_append_left _ (List.mem_append_right _ h)))
theorem fi_X5_waits_X4 : ∀ w ∈ wsX40, w ∈ wsX5_waits := fun _ h => List.mem_cons_of_mem _ (List.mem_append_left _ (List.mem_append_right _ h))
theorem fi_X5_waits_X2 : ∀ w ∈ wsX20, w ∈ wsX5_waits := fun _ h => List.mem_cons_of_mem _ (List.mem_append_right _ h)
theorem hdV_X5_waits : yX5_waits.cls = RX5 ∧ yX5_waits.cls ≠ "java/lang/invoke/MethodHandle" ∧ yX5_waits.cls ≠ "java/lang/invoke/VarHandle" ∧ (parseMethodDescriptor yX5_waits.desc).map (fun d => d.parameters.length) = some 0 := by decide +kernel
set_option maxRecDepth 100000 in
set_option maxHeartbeats 4000000 in
theorem c_X5_waits (l : Launch) (G : va_G) (cI cZ : ClassId) (aX : Nat → Nat) (aR : Nat → Nat) (aY : Nat → Nat) (aC : Nat → Nat) (aW : Nat → Nat) (aD : Nat → Nat) (aS : Nat → Nat) (aI : Nat → Nat) (aJ : Nat → Nat) (vT : Int64) (vX : Ob) (vW : Ob) (vS : Ob)  (res : Int32 × Ob) (h : m_X5_waits vX vW vS  = some res) : Ct l yX5_waits wsX5_waits rm_X5_waits G cI cZ [.ref (aX 0)] [oX5 aX aW aD aR aS aI aJ aY aC vX vT, oX4 aW vW, oX2 aS vS, ai cI (aS 6) 12 (vS 6), ai cI (aS 7) 12 (vS 7), ai cI (aS 8) 12 (vS 8)] (some (.int res.1)) [oX5 aX aW aD aR aS aI aJ aY aC vX vT, oX4 aW vW, oX2 aS res.2, ai cI (aS 6) 12 (res.2 6), ai cI (aS 7) 12 (res.2 7), ai cI (aS 8) 12 (res.2 8)] := by
  refine Ct.of_i (maxL := 1) (by decide) rfl (Nat.le_of_ble_eq_true rfl) ?_
  intro p e s m below meth c args hx hb hml hown hts A hA hEN hP hD hS Q hRet ls hl
  have hown : s.vm.findClass RX5 = some m.cls := hown
  have hl : lv_has ls 1 [(0, .ref (aX 0))] := hl
  unfold m_X5_waits at h
  refine lv_aload_n hx hb dX5_waits_0 rfl (lv_at hl 0 rfl) ?_
  refine va_get (D := G) (ci := 5) (v := .ref (aW 0)) (C := RX5) (T := TX5) (N := 11) hx hb hts fi_X5_waits_X5 hown hEN.1 hP 0 rfl rfl 2 (by decide) (hts (.fieldLink RX5 20 "HourWell" "world" "LHourWell$World;") (List.mem_of_getElem? (i := 1) rfl)) (fun _ h9 => h9) rfl dX5_waits_1 ?_
  refine va_get (D := G) (ci := 4) (v := .int (vW 0 0)) (C := RX4) (T := TX4) (N := 13) hx hb hts fi_X5_waits_X4 hown hEN.1 hP 1 rfl rfl 0 (by decide) (hts (.fieldLink RX5 153 "HourWell$World" "places" "I") (List.mem_of_getElem? (i := 2) rfl)) (fun _ h9 => h9) rfl dX5_waits_4 ?_
  refine lv_if_eq (tgt := 23) hx hb dX5_waits_7 (by decide) (fun c7 => ?_) (fun c7 => ?_)
  · have h := (if_pos c7).symm.trans h
    refine lv_bipush (v := (-2 : Int32)) hx hb dX5_waits_23 k_bipush_n2 ?_
    have hres := Option.some.inj h
    subst hres
    exact hRet 25 _ _ _ hP hD hS dX5_waits_25
  · have h := (if_neg c7).symm.trans h
    refine lv_aload_n hx hb dX5_waits_10 rfl (lv_at hl 0 rfl) ?_
    refine va_get (D := G) (ci := 5) (v := .ref (aS 0)) (C := RX5) (T := TX5) (N := 11) hx hb hts fi_X5_waits_X5 hown hEN.1 hP 0 rfl rfl 5 (by decide) (hts (.fieldLink RX5 39 "HourWell" "son" "LHourWell$Son;") (List.mem_of_getElem? (i := 3) rfl)) (fun _ h9 => h9) rfl dX5_waits_11 ?_
    refine va_get (D := G) (ci := 2) (v := .int (vS 0 1)) (C := RX2) (T := TX2) (N := 8) hx hb hts fi_X5_waits_X2 hown hEN.1 hP 2 rfl rfl 1 (by decide) (hts (.fieldLink RX5 144 "HourWell$Son" "hour" "I") (List.mem_of_getElem? (i := 4) rfl)) (fun _ h9 => h9) rfl dX5_waits_14 ?_
    refine lv_sipush (v := (9999 : Int32)) hx hb dX5_waits_17 k_sipush_9999 ?_
    refine lv_icmp_lt (tgt := 26) hx hb dX5_waits_20 (by decide) (fun c20 => ?_) (fun c20 => ?_)
    · have h := (if_pos c20).symm.trans h
      refine lv_aload_n hx hb dX5_waits_26 rfl (lv_at hl 0 rfl) ?_
      refine va_get (D := G) (ci := 5) (v := .ref (aS 0)) (C := RX5) (T := TX5) (N := 11) hx hb hts fi_X5_waits_X5 hown hEN.1 hP 0 rfl rfl 5 (by decide) (hts (.fieldLink RX5 39 "HourWell" "son" "LHourWell$Son;") (List.mem_of_getElem? (i := 3) rfl)) (fun _ h9 => h9) rfl dX5_waits_27 ?_
      obtain ⟨o30, ho30, h⟩ := bnd_some h
      refine call_VJ (wr := [oX5 aX aW aD aR aS aI aJ aY aC vX vT, oX4 aW vW]) (As := []) (rest := []) ⟨hx, hb, hml, hown, hts⟩ (c_X2_remember l G cI cZ aS vS o30 ho30) (cwV 0 hts gX5_waits_X2_remember rfl rfl rfl hdV_X2_remember ⟨Nat.le_of_ble_eq_true rfl, Nat.le_of_ble_eq_true rfl⟩) hEN hA hP hD hS [2, 3, 4, 5] [0, 1] rfl (by decide) rfl (by decide) (by decide) 2 rfl rfl rfl hl.1 rfl (Nat.le_of_ble_eq_true rfl) dX5_waits_30 ⟨Nat.le_of_ble_eq_true rfl, Nat.le_of_ble_eq_true rfl⟩ (fun H locs hP hD hS => ?_)
      have hP : va_P G vwCl [oX5 aX aW aD aR aS aI aJ aY aC vX vT, oX4 aW vW, oX2 aS o30, ai cI (aS 6) 12 (o30 6), ai cI (aS 7) 12 (o30 7), ai cI (aS 8) 12 (o30 8)] H := hP
      have hD : va_D A [oX5 aX aW aD aR aS aI aJ aY aC vX vT, oX4 aW vW, oX2 aS o30, ai cI (aS 6) 12 (o30 6), ai cI (aS 7) 12 (o30 7), ai cI (aS 8) 12 (o30 8)] := hD
      refine lv_aload_n hx hb dX5_waits_33 rfl (lv_at hl 0 rfl) ?_
      refine va_get (D := G) (ci := 5) (v := .ref (aS 0)) (C := RX5) (T := TX5) (N := 11) hx hb hts fi_X5_waits_X5 hown hEN.1 hP 0 rfl rfl 5 (by decide) (hts (.fieldLink RX5 39 "HourWell" "son" "LHourWell$Son;") (List.mem_of_getElem? (i := 3) rfl)) (fun _ h9 => h9) rfl dX5_waits_34 ?_
      refine lv_dup hx hb dX5_waits_37 rfl ?_
      refine va_get (D := G) (ci := 2) (v := .int (o30 0 1)) (C := RX2) (T := TX2) (N := 8) hx hb hts fi_X5_waits_X2 hown hEN.1 hP 2 rfl rfl 1 (by decide) (hts (.fieldLink RX5 144 "HourWell$Son" "hour" "I") (List.mem_of_getElem? (i := 4) rfl)) (fun _ h9 => h9) rfl dX5_waits_38 ?_
      refine lv_iconst (v := (1 : Int32)) hx hb dX5_waits_41 k_iconst_1 ?_
      refine lv_iadd hx hb dX5_waits_42 ?_
      refine va_put (D := G) (ci := 2) (v := .int ((o30 0 1) + (1 : Int32))) (ty := .int) (C := RX2) (T := TX2) (N := 8) hx hb hts fi_X5_waits_X2 tyX2 tyX2_ok nmX2 hown hEN.1 hP hD hS 2 rfl rfl 1 (by decide) (hts (.fieldLink RX5 144 "HourWell$Son" "hour" "I") (List.mem_of_getElem? (i := 4) rfl)) (fun _ h9 => h9) rfl (by decide +kernel) rfl rfl (Nat.le_of_ble_eq_true rfl) dX5_waits_43 (fun H locs hP hD hS => ?_)
      have hP : va_P G vwCl [oX5 aX aW aD aR aS aI aJ aY aC vX vT, oX4 aW vW, oX2 aS (st o30 0 1 ((o30 0 1) + (1 : Int32))), ai cI (aS 6) 12 (o30 6), ai cI (aS 7) 12 (o30 7), ai cI (aS 8) 12 (o30 8)] H := hP
      have hD : va_D A [oX5 aX aW aD aR aS aI aJ aY aC vX vT, oX4 aW vW, oX2 aS (st o30 0 1 ((o30 0 1) + (1 : Int32))), ai cI (aS 6) 12 (o30 6), ai cI (aS 7) 12 (o30 7), ai cI (aS 8) 12 (o30 8)] := hD
      refine lv_aload_n hx hb dX5_waits_46 rfl (lv_at hl 0 rfl) ?_
      refine va_get (D := G) (ci := 5) (v := .ref (aS 0)) (C := RX5) (T := TX5) (N := 11) hx hb hts fi_X5_waits_X5 hown hEN.1 hP 0 rfl rfl 5 (by decide) (hts (.fieldLink RX5 39 "HourWell" "son" "LHourWell$Son;") (List.mem_of_getElem? (i := 3) rfl)) (fun _ h9 => h9) rfl dX5_waits_47 ?_
      refine va_get (D := G) (ci := 2) (v := .int ((o30 0 1) + (1 : Int32))) (C := RX2) (T := TX2) (N := 8) hx hb hts fi_X5_waits_X2 hown hEN.1 hP 2 rfl rfl 1 (by decide) (hts (.fieldLink RX5 144 "HourWell$Son" "hour" "I") (List.mem_of_getElem? (i := 4) rfl)) (fun _ h9 => h9) rfl dX5_waits_50 ?_
      have hres := Option.some.inj h
      subst hres
      exact hRet 53 _ _ _ hP hD hS dX5_waits_53
    · have h := (if_neg c20).symm.trans h
      refine lv_bipush (v := (-2 : Int32)) hx hb dX5_waits_23 k_bipush_n2 ?_
      have hres := Option.some.inj h
      subst hres
      exact hRet 25 _ _ _ hP hD hS dX5_waits_25
abbrev rm_X5_asks : Room := { frames := 3, cells := 0, slots := 0, locals := 66 }
theorem fi_X5_asks_X5 : ∀ w ∈ wsX50, w ∈ wsX5_asks := fun _ h => List.mem_cons_of_mem _ (List.mem_append_left _ (List.mem_append_left _ (List.mem_append_right _ h)))
theorem fi_X5_asks_X2 : ∀ w ∈ wsX20, w ∈ wsX5_asks := fun _ h => List.mem_cons_of_mem _ (List.mem_append_left _ (List.mem_append_right _ h))
theorem fi_X5_asks_X4 : ∀ w ∈ wsX40, w ∈ wsX5_asks := fun _ h => List.mem_cons_of_mem _ (List.mem_append_right _ h)
theorem hdV_X5_asks : yX5_asks.cls = RX5 ∧ yX5_asks.cls ≠ "java/lang/invoke/MethodHandle" ∧ yX5_asks.cls ≠ "java/lang/invoke/VarHandle" ∧ (parseMethodDescriptor yX5_asks.desc).map (fun d => d.parameters.length) = some 1 := by decide +kernel
set_option maxRecDepth 100000 in
set_option maxHeartbeats 4000000 in
theorem c_X5_asks (l : Launch) (G : va_G) (cI cZ : ClassId) (aX : Nat → Nat) (aR : Nat → Nat) (aY : Nat → Nat) (aC : Nat → Nat) (aW : Nat → Nat) (aD : Nat → Nat) (aS : Nat → Nat) (aI : Nat → Nat) (aJ : Nat → Nat) (vT : Int64) (vX : Ob) (vW : Ob) (vS : Ob) (x1 : Int32) (res : Int32 × Ob) (h : m_X5_asks vX vW vS x1 = some res) : Ct l yX5_asks wsX5_asks rm_X5_asks G cI cZ [.ref (aX 0), .int x1] [oX5 aX aW aD aR aS aI aJ aY aC vX vT, oX4 aW vW, ai cI (aW 11) 6 (vW 11), ai cI (aW 12) 6 (vW 12), ai cI (aW 13) 6 (vW 13), oX2 aS vS, ai cI (aS 6) 12 (vS 6), ai cI (aS 7) 12 (vS 7), ai cI (aS 8) 12 (vS 8)] (some (.int res.1)) [oX5 aX aW aD aR aS aI aJ aY aC vX vT, oX4 aW vW, ai cI (aW 11) 6 (vW 11), ai cI (aW 12) 6 (vW 12), ai cI (aW 13) 6 (vW 13), oX2 aS res.2, ai cI (aS 6) 12 (res.2 6), ai cI (aS 7) 12 (res.2 7), ai cI (aS 8) 12 (res.2 8)] := by
  refine Ct.of_i (maxL := 2) (by decide) rfl (Nat.le_of_ble_eq_true rfl) ?_
  intro p e s m below meth c args hx hb hml hown hts A hA hEN hP hD hS Q hRet ls hl
  have hown : s.vm.findClass RX5 = some m.cls := hown
  have hl : lv_has ls 2 [(0, .ref (aX 0)), (1, .int x1)] := hl
  unfold m_X5_asks at h
  refine lv_aload_n hx hb dX5_asks_0 rfl (lv_at hl 0 rfl) ?_
  refine va_get (D := G) (ci := 5) (v := .ref (aW 0)) (C := RX5) (T := TX5) (N := 11) hx hb hts fi_X5_asks_X5 hown hEN.1 hP 0 rfl rfl 2 (by decide) (hts (.fieldLink RX5 20 "HourWell" "world" "LHourWell$World;") (List.mem_of_getElem? (i := 1) rfl)) (fun _ h9 => h9) rfl dX5_asks_1 ?_
  refine lv_iload_n hx hb dX5_asks_4 rfl (lv_at hl 1 rfl) ?_
  obtain ⟨o5, ho5, h⟩ := bnd_some h
  refine call_V0 (As := [.int x1]) (rest := []) ⟨hx, hb, hml, hown, hts⟩ (c_X4_hasHost l G cI cZ aW vW x1 o5 ho5) (cwV 1 hts gX5_asks_X4_hasHost rfl rfl rfl hdV_X4_hasHost ⟨Nat.le_of_ble_eq_true rfl, Nat.le_of_ble_eq_true rfl⟩) hEN hA hP hD hS [1] rfl (by decide) 1 rfl rfl rfl hl.1 rfl (Nat.le_of_ble_eq_true rfl) dX5_asks_5 ⟨Nat.le_of_ble_eq_true rfl, Nat.le_of_ble_eq_true rfl⟩ (fun H locs hP hS => ?_)
  refine lv_if_ne (tgt := 13) hx hb dX5_asks_8 (by decide) (fun c8 => ?_) (fun c8 => ?_)
  · have h := (if_neg c8).symm.trans h
    refine lv_aload_n hx hb dX5_asks_13 rfl (lv_at hl 0 rfl) ?_
    refine va_get (D := G) (ci := 5) (v := .ref (aW 0)) (C := RX5) (T := TX5) (N := 11) hx hb hts fi_X5_asks_X5 hown hEN.1 hP 0 rfl rfl 2 (by decide) (hts (.fieldLink RX5 20 "HourWell" "world" "LHourWell$World;") (List.mem_of_getElem? (i := 1) rfl)) (fun _ h9 => h9) rfl dX5_asks_14 ?_
    refine lv_iload_n hx hb dX5_asks_17 rfl (lv_at hl 1 rfl) ?_
    refine lv_aload_n hx hb dX5_asks_18 rfl (lv_at hl 0 rfl) ?_
    refine va_get (D := G) (ci := 5) (v := .ref (aS 0)) (C := RX5) (T := TX5) (N := 11) hx hb hts fi_X5_asks_X5 hown hEN.1 hP 0 rfl rfl 5 (by decide) (hts (.fieldLink RX5 39 "HourWell" "son" "LHourWell$Son;") (List.mem_of_getElem? (i := 2) rfl)) (fun _ h9 => h9) rfl dX5_asks_19 ?_
    refine va_get (D := G) (ci := 2) (v := .int (vS 0 0)) (C := RX2) (T := TX2) (N := 8) hx hb hts fi_X5_asks_X2 hown hEN.1 hP 5 rfl rfl 0 (by decide) (hts (.fieldLink RX5 134 "HourWell$Son" "place" "I") (List.mem_of_getElem? (i := 3) rfl)) (fun _ h9 => h9) rfl dX5_asks_22 ?_
    refine lv_aload_n hx hb dX5_asks_25 rfl (lv_at hl 0 rfl) ?_
    refine va_get (D := G) (ci := 5) (v := .ref (aS 0)) (C := RX5) (T := TX5) (N := 11) hx hb hts fi_X5_asks_X5 hown hEN.1 hP 0 rfl rfl 5 (by decide) (hts (.fieldLink RX5 39 "HourWell" "son" "LHourWell$Son;") (List.mem_of_getElem? (i := 2) rfl)) (fun _ h9 => h9) rfl dX5_asks_26 ?_
    refine va_get (D := G) (ci := 2) (v := .int (vS 0 2)) (C := RX2) (T := TX2) (N := 8) hx hb hts fi_X5_asks_X2 hown hEN.1 hP 5 rfl rfl 2 (by decide) (hts (.fieldLink RX5 147 "HourWell$Son" "things" "I") (List.mem_of_getElem? (i := 4) rfl)) (fun _ h9 => h9) rfl dX5_asks_29 ?_
    obtain ⟨o32, ho32, h⟩ := bnd_some h
    refine call_V0 (As := [.int x1, .int (vS 0 0), .int (vS 0 2)]) (rest := []) ⟨hx, hb, hml, hown, hts⟩ (c_X4_isGiven l G cI cZ aW vW x1 (vS 0 0) (vS 0 2) o32 ho32) (cwV 3 hts gX5_asks_X4_isGiven rfl rfl rfl hdV_X4_isGiven ⟨Nat.le_of_ble_eq_true rfl, Nat.le_of_ble_eq_true rfl⟩) hEN hA hP hD hS [1, 2, 3, 4] rfl (by decide) 1 rfl rfl rfl hl.1 rfl (Nat.le_of_ble_eq_true rfl) dX5_asks_32 ⟨Nat.le_of_ble_eq_true rfl, Nat.le_of_ble_eq_true rfl⟩ (fun H locs hP hS => ?_)
    refine lv_if_ne (tgt := 41) hx hb dX5_asks_35 (by decide) (fun c35 => ?_) (fun c35 => ?_)
    · have h := (if_neg c35).symm.trans h
      refine lv_aload_n hx hb dX5_asks_41 rfl (lv_at hl 0 rfl) ?_
      refine va_get (D := G) (ci := 5) (v := .ref (aS 0)) (C := RX5) (T := TX5) (N := 11) hx hb hts fi_X5_asks_X5 hown hEN.1 hP 0 rfl rfl 5 (by decide) (hts (.fieldLink RX5 39 "HourWell" "son" "LHourWell$Son;") (List.mem_of_getElem? (i := 2) rfl)) (fun _ h9 => h9) rfl dX5_asks_42 ?_
      obtain ⟨o45, ho45, h⟩ := bnd_some h
      refine call_VJ (wr := [oX5 aX aW aD aR aS aI aJ aY aC vX vT, oX4 aW vW, ai cI (aW 11) 6 (vW 11), ai cI (aW 12) 6 (vW 12), ai cI (aW 13) 6 (vW 13)]) (As := []) (rest := []) ⟨hx, hb, hml, hown, hts⟩ (c_X2_remember l G cI cZ aS vS o45 ho45) (cwV 0 hts gX5_asks_X2_remember rfl rfl rfl hdV_X2_remember ⟨Nat.le_of_ble_eq_true rfl, Nat.le_of_ble_eq_true rfl⟩) hEN hA hP hD hS [5, 6, 7, 8] [0, 1, 2, 3, 4] rfl (by decide) rfl (by decide) (by decide) 5 rfl rfl rfl hl.1 rfl (Nat.le_of_ble_eq_true rfl) dX5_asks_45 ⟨Nat.le_of_ble_eq_true rfl, Nat.le_of_ble_eq_true rfl⟩ (fun H locs hP hD hS => ?_)
      have hP : va_P G vwCl [oX5 aX aW aD aR aS aI aJ aY aC vX vT, oX4 aW vW, ai cI (aW 11) 6 (vW 11), ai cI (aW 12) 6 (vW 12), ai cI (aW 13) 6 (vW 13), oX2 aS o45, ai cI (aS 6) 12 (o45 6), ai cI (aS 7) 12 (o45 7), ai cI (aS 8) 12 (o45 8)] H := hP
      have hD : va_D A [oX5 aX aW aD aR aS aI aJ aY aC vX vT, oX4 aW vW, ai cI (aW 11) 6 (vW 11), ai cI (aW 12) 6 (vW 12), ai cI (aW 13) 6 (vW 13), oX2 aS o45, ai cI (aS 6) 12 (o45 6), ai cI (aS 7) 12 (o45 7), ai cI (aS 8) 12 (o45 8)] := hD
      refine lv_aload_n hx hb dX5_asks_48 rfl (lv_at hl 0 rfl) ?_
      refine va_get (D := G) (ci := 5) (v := .ref (aS 0)) (C := RX5) (T := TX5) (N := 11) hx hb hts fi_X5_asks_X5 hown hEN.1 hP 0 rfl rfl 5 (by decide) (hts (.fieldLink RX5 39 "HourWell" "son" "LHourWell$Son;") (List.mem_of_getElem? (i := 2) rfl)) (fun _ h9 => h9) rfl dX5_asks_49 ?_
      refine lv_dup hx hb dX5_asks_52 rfl ?_
      refine va_get (D := G) (ci := 2) (v := .int (o45 0 2)) (C := RX2) (T := TX2) (N := 8) hx hb hts fi_X5_asks_X2 hown hEN.1 hP 5 rfl rfl 2 (by decide) (hts (.fieldLink RX5 147 "HourWell$Son" "things" "I") (List.mem_of_getElem? (i := 4) rfl)) (fun _ h9 => h9) rfl dX5_asks_53 ?_
      refine lv_iconst (v := (1 : Int32)) hx hb dX5_asks_56 k_iconst_1 ?_
      refine lv_aload_n hx hb dX5_asks_57 rfl (lv_at hl 0 rfl) ?_
      refine va_get (D := G) (ci := 5) (v := .ref (aW 0)) (C := RX5) (T := TX5) (N := 11) hx hb hts fi_X5_asks_X5 hown hEN.1 hP 0 rfl rfl 2 (by decide) (hts (.fieldLink RX5 20 "HourWell" "world" "LHourWell$World;") (List.mem_of_getElem? (i := 1) rfl)) (fun _ h9 => h9) rfl dX5_asks_58 ?_
      refine lv_iload_n hx hb dX5_asks_61 rfl (lv_at hl 1 rfl) ?_
      obtain ⟨o62, ho62, h⟩ := bnd_some h
      refine call_V0 (As := [.int x1]) (rest := [.int (1 : Int32), .int (o45 0 2), .ref (aS 0)]) ⟨hx, hb, hml, hown, hts⟩ (c_X4_hostGives l G cI cZ aW vW x1 o62 ho62) (cwV 1 hts gX5_asks_X4_hostGives rfl rfl rfl hdV_X4_hostGives ⟨Nat.le_of_ble_eq_true rfl, Nat.le_of_ble_eq_true rfl⟩) hEN hA hP hD hS [1, 3] rfl (by decide) 1 rfl rfl rfl hl.1 rfl (Nat.le_of_ble_eq_true rfl) dX5_asks_62 ⟨Nat.le_of_ble_eq_true rfl, Nat.le_of_ble_eq_true rfl⟩ (fun H locs hP hS => ?_)
      refine lv_ishl hx hb dX5_asks_65 ?_
      refine lv_ior hx hb dX5_asks_66 ?_
      refine va_put (D := G) (ci := 2) (v := .int ((o45 0 2) ||| ((1 : Int32) <<< (o62 &&& 31)))) (ty := .int) (C := RX2) (T := TX2) (N := 8) hx hb hts fi_X5_asks_X2 tyX2 tyX2_ok nmX2 hown hEN.1 hP hD hS 5 rfl rfl 2 (by decide) (hts (.fieldLink RX5 147 "HourWell$Son" "things" "I") (List.mem_of_getElem? (i := 4) rfl)) (fun _ h9 => h9) rfl (by decide +kernel) rfl rfl (Nat.le_of_ble_eq_true rfl) dX5_asks_67 (fun H locs hP hD hS => ?_)
      have hP : va_P G vwCl [oX5 aX aW aD aR aS aI aJ aY aC vX vT, oX4 aW vW, ai cI (aW 11) 6 (vW 11), ai cI (aW 12) 6 (vW 12), ai cI (aW 13) 6 (vW 13), oX2 aS (st o45 0 2 ((o45 0 2) ||| ((1 : Int32) <<< (o62 &&& 31)))), ai cI (aS 6) 12 (o45 6), ai cI (aS 7) 12 (o45 7), ai cI (aS 8) 12 (o45 8)] H := hP
      have hD : va_D A [oX5 aX aW aD aR aS aI aJ aY aC vX vT, oX4 aW vW, ai cI (aW 11) 6 (vW 11), ai cI (aW 12) 6 (vW 12), ai cI (aW 13) 6 (vW 13), oX2 aS (st o45 0 2 ((o45 0 2) ||| ((1 : Int32) <<< (o62 &&& 31)))), ai cI (aS 6) 12 (o45 6), ai cI (aS 7) 12 (o45 7), ai cI (aS 8) 12 (o45 8)] := hD
      refine lv_aload_n hx hb dX5_asks_70 rfl (lv_at hl 0 rfl) ?_
      refine va_get (D := G) (ci := 5) (v := .ref (aS 0)) (C := RX5) (T := TX5) (N := 11) hx hb hts fi_X5_asks_X5 hown hEN.1 hP 0 rfl rfl 5 (by decide) (hts (.fieldLink RX5 39 "HourWell" "son" "LHourWell$Son;") (List.mem_of_getElem? (i := 2) rfl)) (fun _ h9 => h9) rfl dX5_asks_71 ?_
      refine va_get (D := G) (ci := 2) (v := .int ((o45 0 2) ||| ((1 : Int32) <<< (o62 &&& 31)))) (C := RX2) (T := TX2) (N := 8) hx hb hts fi_X5_asks_X2 hown hEN.1 hP 5 rfl rfl 2 (by decide) (hts (.fieldLink RX5 147 "HourWell$Son" "things" "I") (List.mem_of_getElem? (i := 4) rfl)) (fun _ h9 => h9) rfl dX5_asks_74 ?_
      have hres := Option.some.inj h
      subst hres
      exact hRet 77 _ _ _ hP hD hS dX5_asks_77
    · have h := (if_pos c35).symm.trans h
      refine lv_bipush (v := (-2 : Int32)) hx hb dX5_asks_38 k_bipush_n2 ?_
      have hres := Option.some.inj h
      subst hres
      exact hRet 40 _ _ _ hP hD hS dX5_asks_40
  · have h := (if_pos c8).symm.trans h
    refine lv_iconst (v := (-1 : Int32)) hx hb dX5_asks_11 k_iconst_n1 ?_
    have hres := Option.some.inj h
    subst hres
    exact hRet 12 _ _ _ hP hD hS dX5_asks_12
abbrev rm_X5_undo : Room := { frames := 2, cells := 0, slots := 0, locals := 42 }
theorem fi_X5_undo_X5 : ∀ w ∈ wsX50, w ∈ wsX5_undo := fun _ h => List.mem_cons_of_mem _ (List.mem_append_left _ (List.mem_append_right _ h))
theorem fi_X5_undo_X2 : ∀ w ∈ wsX20, w ∈ wsX5_undo := fun _ h => List.mem_cons_of_mem _ (List.mem_append_right _ h)
theorem hdV_X5_undo : yX5_undo.cls = RX5 ∧ yX5_undo.cls ≠ "java/lang/invoke/MethodHandle" ∧ yX5_undo.cls ≠ "java/lang/invoke/VarHandle" ∧ (parseMethodDescriptor yX5_undo.desc).map (fun d => d.parameters.length) = some 0 := by decide +kernel
set_option maxRecDepth 100000 in
set_option maxHeartbeats 4000000 in
theorem c_X5_undo (l : Launch) (G : va_G) (cI cZ : ClassId) (aX : Nat → Nat) (aR : Nat → Nat) (aY : Nat → Nat) (aC : Nat → Nat) (aW : Nat → Nat) (aD : Nat → Nat) (aS : Nat → Nat) (aI : Nat → Nat) (aJ : Nat → Nat) (vT : Int64) (vX : Ob) (vS : Ob)  (res : Int32 × Ob) (h : m_X5_undo vX vS  = some res) : Ct l yX5_undo wsX5_undo rm_X5_undo G cI cZ [.ref (aX 0)] [oX5 aX aW aD aR aS aI aJ aY aC vX vT, oX2 aS vS, ai cI (aS 6) 12 (vS 6), ai cI (aS 7) 12 (vS 7), ai cI (aS 8) 12 (vS 8)] (some (.int res.1)) [oX5 aX aW aD aR aS aI aJ aY aC vX vT, oX2 aS res.2, ai cI (aS 6) 12 (res.2 6), ai cI (aS 7) 12 (res.2 7), ai cI (aS 8) 12 (res.2 8)] := by
  refine Ct.of_i (maxL := 1) (by decide) rfl (Nat.le_of_ble_eq_true rfl) ?_
  intro p e s m below meth c args hx hb hml hown hts A hA hEN hP hD hS Q hRet ls hl
  have hown : s.vm.findClass RX5 = some m.cls := hown
  have hl : lv_has ls 1 [(0, .ref (aX 0))] := hl
  unfold m_X5_undo at h
  refine lv_aload_n hx hb dX5_undo_0 rfl (lv_at hl 0 rfl) ?_
  refine va_get (D := G) (ci := 5) (v := .ref (aS 0)) (C := RX5) (T := TX5) (N := 11) hx hb hts fi_X5_undo_X5 hown hEN.1 hP 0 rfl rfl 5 (by decide) (hts (.fieldLink RX5 39 "HourWell" "son" "LHourWell$Son;") (List.mem_of_getElem? (i := 1) rfl)) (fun _ h9 => h9) rfl dX5_undo_1 ?_
  refine va_get (D := G) (ci := 2) (v := .int (vS 0 3)) (C := RX2) (T := TX2) (N := 8) hx hb hts fi_X5_undo_X2 hown hEN.1 hP 1 rfl rfl 3 (by decide) (hts (.fieldLink RX5 159 "HourWell$Son" "known" "I") (List.mem_of_getElem? (i := 2) rfl)) (fun _ h9 => h9) rfl dX5_undo_4 ?_
  refine lv_if_ne (tgt := 13) hx hb dX5_undo_7 (by decide) (fun c7 => ?_) (fun c7 => ?_)
  · have h := (if_neg c7).symm.trans h
    refine lv_aload_n hx hb dX5_undo_13 rfl (lv_at hl 0 rfl) ?_
    refine va_get (D := G) (ci := 5) (v := .ref (aS 0)) (C := RX5) (T := TX5) (N := 11) hx hb hts fi_X5_undo_X5 hown hEN.1 hP 0 rfl rfl 5 (by decide) (hts (.fieldLink RX5 39 "HourWell" "son" "LHourWell$Son;") (List.mem_of_getElem? (i := 1) rfl)) (fun _ h9 => h9) rfl dX5_undo_14 ?_
    obtain ⟨o17, ho17, h⟩ := bnd_some h
    refine call_VJ (wr := [oX5 aX aW aD aR aS aI aJ aY aC vX vT]) (As := []) (rest := []) ⟨hx, hb, hml, hown, hts⟩ (c_X2_recall l G cI cZ aS vS o17 ho17) (cwV 0 hts gX5_undo_X2_recall rfl rfl rfl hdV_X2_recall ⟨Nat.le_of_ble_eq_true rfl, Nat.le_of_ble_eq_true rfl⟩) hEN hA hP hD hS [1, 2, 3, 4] [0] rfl (by decide) rfl (by decide) (by decide) 1 rfl rfl rfl hl.1 rfl (Nat.le_of_ble_eq_true rfl) dX5_undo_17 ⟨Nat.le_of_ble_eq_true rfl, Nat.le_of_ble_eq_true rfl⟩ (fun H locs hP hD hS => ?_)
    have hP : va_P G vwCl [oX5 aX aW aD aR aS aI aJ aY aC vX vT, oX2 aS o17, ai cI (aS 6) 12 (o17 6), ai cI (aS 7) 12 (o17 7), ai cI (aS 8) 12 (o17 8)] H := hP
    have hD : va_D A [oX5 aX aW aD aR aS aI aJ aY aC vX vT, oX2 aS o17, ai cI (aS 6) 12 (o17 6), ai cI (aS 7) 12 (o17 7), ai cI (aS 8) 12 (o17 8)] := hD
    refine lv_aload_n hx hb dX5_undo_20 rfl (lv_at hl 0 rfl) ?_
    refine va_get (D := G) (ci := 5) (v := .ref (aS 0)) (C := RX5) (T := TX5) (N := 11) hx hb hts fi_X5_undo_X5 hown hEN.1 hP 0 rfl rfl 5 (by decide) (hts (.fieldLink RX5 39 "HourWell" "son" "LHourWell$Son;") (List.mem_of_getElem? (i := 1) rfl)) (fun _ h9 => h9) rfl dX5_undo_21 ?_
    refine va_get (D := G) (ci := 2) (v := .int (o17 0 3)) (C := RX2) (T := TX2) (N := 8) hx hb hts fi_X5_undo_X2 hown hEN.1 hP 1 rfl rfl 3 (by decide) (hts (.fieldLink RX5 159 "HourWell$Son" "known" "I") (List.mem_of_getElem? (i := 2) rfl)) (fun _ h9 => h9) rfl dX5_undo_24 ?_
    have hres := Option.some.inj h
    subst hres
    exact hRet 27 _ _ _ hP hD hS dX5_undo_27
  · have h := (if_pos c7).symm.trans h
    refine lv_bipush (v := (-2 : Int32)) hx hb dX5_undo_10 k_bipush_n2 ?_
    have hres := Option.some.inj h
    subst hres
    exact hRet 12 _ _ _ hP hD hS dX5_undo_12
abbrev rm_X5_givingHosts : Room := { frames := 3, cells := 0, slots := 0, locals := 64 }
theorem fi_X5_givingHosts_X5 : ∀ w ∈ wsX50, w ∈ wsX5_givingHosts := fun _ h => List.mem_cons_of_mem _ (List.mem_append_left _ (List.mem_append_left _ (List.mem_append_right _ h)))
theorem fi_X5_givingHosts_X4 : ∀ w ∈ wsX40, w ∈ wsX5_givingHosts := fun _ h => List.mem_cons_of_mem _ (List.mem_append_left _ (List.mem_append_right _ h))
theorem fi_X5_givingHosts_X2 : ∀ w ∈ wsX20, w ∈ wsX5_givingHosts := fun _ h => List.mem_cons_of_mem _ (List.mem_append_right _ h)
theorem hdV_X5_givingHosts : yX5_givingHosts.cls = RX5 ∧ yX5_givingHosts.cls ≠ "java/lang/invoke/MethodHandle" ∧ yX5_givingHosts.cls ≠ "java/lang/invoke/VarHandle" ∧ (parseMethodDescriptor yX5_givingHosts.desc).map (fun d => d.parameters.length) = some 0 := by decide +kernel
set_option maxRecDepth 100000 in
set_option maxHeartbeats 4000000 in
theorem c_X5_givingHosts (l : Launch) (G : va_G) (cI cZ : ClassId) (aX : Nat → Nat) (aR : Nat → Nat) (aY : Nat → Nat) (aC : Nat → Nat) (aW : Nat → Nat) (aD : Nat → Nat) (aS : Nat → Nat) (aI : Nat → Nat) (aJ : Nat → Nat) (vT : Int64) (vX : Ob) (vW : Ob) (vS : Ob)  (res : Int32) (h : m_X5_givingHosts vX vW vS  = some res) : Ct l yX5_givingHosts wsX5_givingHosts rm_X5_givingHosts G cI cZ [.ref (aX 0)] [oX5 aX aW aD aR aS aI aJ aY aC vX vT, oX4 aW vW, ai cI (aW 11) 6 (vW 11), ai cI (aW 12) 6 (vW 12), ai cI (aW 13) 6 (vW 13), oX2 aS vS] (some (.int res)) [oX5 aX aW aD aR aS aI aJ aY aC vX vT, oX4 aW vW, ai cI (aW 11) 6 (vW 11), ai cI (aW 12) 6 (vW 12), ai cI (aW 13) 6 (vW 13), oX2 aS vS] := by
  refine Ct.of_i (maxL := 3) (by decide) rfl (Nat.le_of_ble_eq_true rfl) ?_
  intro p e s m below meth c args hx hb hml hown hts A hA hEN hP hD hS Q hRet ls hl
  have hown : s.vm.findClass RX5 = some m.cls := hown
  have hl : lv_has ls 3 [(0, .ref (aX 0))] := hl
  have L4 : ∀ (out : Int32), (∀ ex : Int32, out = ex → ∀ (H : Heap) (locs : List Loc) (ls : Array Slot), va_P G vwCl [oX5 aX aW aD aR aS aI aJ aY aC vX vT, oX4 aW vW, ai cI (aW 11) 6 (vW 11), ai cI (aW 12) 6 (vW 12), ai cI (aW 13) 6 (vW 13), oX2 aS vS] H → va_D A [oX5 aX aW aD aR aS aI aJ aY aC vX vT, oX4 aW vW, ai cI (aW 11) 6 (vW 11), ai cI (aW 12) 6 (vW 12), ai cI (aW 13) 6 (vW 13), oX2 aS vS] → va_S A s.heap H locs → lv_has ls 3 [(1, .int ex)] → W p l e rm_X5_givingHosts s m args below meth c H locs 0 0 Q (F0 m 52 ls [])) → ∀ (n : Nat) (x1 : Int32) (x2 : Int32), m_X5_givingHosts_L4 vX vW vS n x1 x2 = some out → ∀ (H : Heap) (locs : List Loc) (ls : Array Slot), va_P G vwCl [oX5 aX aW aD aR aS aI aJ aY aC vX vT, oX4 aW vW, ai cI (aW 11) 6 (vW 11), ai cI (aW 12) 6 (vW 12), ai cI (aW 13) 6 (vW 13), oX2 aS vS] H → va_D A [oX5 aX aW aD aR aS aI aJ aY aC vX vT, oX4 aW vW, ai cI (aW 11) 6 (vW 11), ai cI (aW 12) 6 (vW 12), ai cI (aW 13) 6 (vW 13), oX2 aS vS] → va_S A s.heap H locs → lv_has ls 3 [(0, .ref (aX 0)), (1, .int x1), (2, .int x2)] → W p l e rm_X5_givingHosts s m args below meth c H locs 0 0 Q (F0 m 4 ls []) := by
    intro out hKx
    have j46 : ∀ (rc : Int32 → Int32 → Option (Int32)), (∀ (x1 : Int32) (x2 : Int32), rc x1 x2 = some out → ∀ (H : Heap) (locs : List Loc) (ls : Array Slot), va_P G vwCl [oX5 aX aW aD aR aS aI aJ aY aC vX vT, oX4 aW vW, ai cI (aW 11) 6 (vW 11), ai cI (aW 12) 6 (vW 12), ai cI (aW 13) 6 (vW 13), oX2 aS vS] H → va_D A [oX5 aX aW aD aR aS aI aJ aY aC vX vT, oX4 aW vW, ai cI (aW 11) 6 (vW 11), ai cI (aW 12) 6 (vW 12), ai cI (aW 13) 6 (vW 13), oX2 aS vS] → va_S A s.heap H locs → lv_has ls 3 [(0, .ref (aX 0)), (1, .int x1), (2, .int x2)] → W p l e rm_X5_givingHosts s m args below meth c H locs 0 0 Q (F0 m 4 ls [])) → ∀ (x1 : Int32) (x2 : Int32), m_X5_givingHosts_j46 vX vW vS rc x1 x2 = some out → ∀ (H : Heap) (locs : List Loc) (ls : Array Slot), va_P G vwCl [oX5 aX aW aD aR aS aI aJ aY aC vX vT, oX4 aW vW, ai cI (aW 11) 6 (vW 11), ai cI (aW 12) 6 (vW 12), ai cI (aW 13) 6 (vW 13), oX2 aS vS] H → va_D A [oX5 aX aW aD aR aS aI aJ aY aC vX vT, oX4 aW vW, ai cI (aW 11) 6 (vW 11), ai cI (aW 12) 6 (vW 12), ai cI (aW 13) 6 (vW 13), oX2 aS vS] → va_S A s.heap H locs → lv_has ls 3 [(0, .ref (aX 0)), (1, .int x1), (2, .int x2)] → W p l e rm_X5_givingHosts s m args below meth c H locs 0 0 Q (F0 m 46 ls []) := by
      intro rc hrc x1 x2 h H locs ls hP hD hS hl
      unfold m_X5_givingHosts_j46 at h
      refine lv_iinc (v := (x2 + (1 : Int32))) (lv' := [(2, .int (x2 + (1 : Int32))), (0, .ref (aX 0)), (1, .int x1)]) hx hb dX5_givingHosts_46 hl (k := 2) rfl (congrArg (fun z => x2 + z) k_iconst_1) (by decide) rfl (fun ls hl => ?_)
      refine lv_goto (tgt := 4) hx hb dX5_givingHosts_49 (by decide) ?_
      exact hrc x1 (x2 + (1 : Int32)) h _ _ _ hP hD hS (lv_sub hl [1, 2, 0] rfl)
    intro n
    induction n with
    | zero => intro x1 x2 h; exact nomatch (show (none : Option (Int32)) = some out from h)
    | succ n hrc =>
      intro x1 x2 h H locs ls hP hD hS hl
      have h : m_X5_givingHosts_L4B vX vW vS (m_X5_givingHosts_L4 vX vW vS n) x1 x2 = some out := h
      generalize m_X5_givingHosts_L4 vX vW vS n = rc at h hrc
      unfold m_X5_givingHosts_L4B at h
      refine lv_iload_n hx hb dX5_givingHosts_4 rfl (lv_at hl 2 rfl) ?_
      refine lv_aload_n hx hb dX5_givingHosts_5 rfl (lv_at hl 0 rfl) ?_
      refine va_get (D := G) (ci := 5) (v := .ref (aW 0)) (C := RX5) (T := TX5) (N := 11) hx hb hts fi_X5_givingHosts_X5 hown hEN.1 hP 0 rfl rfl 2 (by decide) (hts (.fieldLink RX5 20 "HourWell" "world" "LHourWell$World;") (List.mem_of_getElem? (i := 1) rfl)) (fun _ h9 => h9) rfl dX5_givingHosts_6 ?_
      refine va_get (D := G) (ci := 4) (v := .int (vW 0 2)) (C := RX4) (T := TX4) (N := 13) hx hb hts fi_X5_givingHosts_X4 hown hEN.1 hP 1 rfl rfl 2 (by decide) (hts (.fieldLink RX5 178 "HourWell$World" "hosts" "I") (List.mem_of_getElem? (i := 2) rfl)) (fun _ h9 => h9) rfl dX5_givingHosts_9 ?_
      refine lv_icmp_ge (tgt := 52) hx hb dX5_givingHosts_12 (by decide) (fun c12 => ?_) (fun c12 => ?_)
      · have h := (if_pos c12).symm.trans h
        exact hKx _ (Option.some.inj h).symm _ _ _ hP hD hS (lv_sub hl [1] rfl)
      · have h := (if_neg c12).symm.trans h
        refine lv_aload_n hx hb dX5_givingHosts_15 rfl (lv_at hl 0 rfl) ?_
        refine va_get (D := G) (ci := 5) (v := .ref (aW 0)) (C := RX5) (T := TX5) (N := 11) hx hb hts fi_X5_givingHosts_X5 hown hEN.1 hP 0 rfl rfl 2 (by decide) (hts (.fieldLink RX5 20 "HourWell" "world" "LHourWell$World;") (List.mem_of_getElem? (i := 1) rfl)) (fun _ h9 => h9) rfl dX5_givingHosts_16 ?_
        refine lv_iload_n hx hb dX5_givingHosts_19 rfl (lv_at hl 2 rfl) ?_
        refine lv_aload_n hx hb dX5_givingHosts_20 rfl (lv_at hl 0 rfl) ?_
        refine va_get (D := G) (ci := 5) (v := .ref (aS 0)) (C := RX5) (T := TX5) (N := 11) hx hb hts fi_X5_givingHosts_X5 hown hEN.1 hP 0 rfl rfl 5 (by decide) (hts (.fieldLink RX5 39 "HourWell" "son" "LHourWell$Son;") (List.mem_of_getElem? (i := 3) rfl)) (fun _ h9 => h9) rfl dX5_givingHosts_21 ?_
        refine va_get (D := G) (ci := 2) (v := .int (vS 0 0)) (C := RX2) (T := TX2) (N := 8) hx hb hts fi_X5_givingHosts_X2 hown hEN.1 hP 5 rfl rfl 0 (by decide) (hts (.fieldLink RX5 134 "HourWell$Son" "place" "I") (List.mem_of_getElem? (i := 4) rfl)) (fun _ h9 => h9) rfl dX5_givingHosts_24 ?_
        refine lv_aload_n hx hb dX5_givingHosts_27 rfl (lv_at hl 0 rfl) ?_
        refine va_get (D := G) (ci := 5) (v := .ref (aS 0)) (C := RX5) (T := TX5) (N := 11) hx hb hts fi_X5_givingHosts_X5 hown hEN.1 hP 0 rfl rfl 5 (by decide) (hts (.fieldLink RX5 39 "HourWell" "son" "LHourWell$Son;") (List.mem_of_getElem? (i := 3) rfl)) (fun _ h9 => h9) rfl dX5_givingHosts_28 ?_
        refine va_get (D := G) (ci := 2) (v := .int (vS 0 2)) (C := RX2) (T := TX2) (N := 8) hx hb hts fi_X5_givingHosts_X2 hown hEN.1 hP 5 rfl rfl 2 (by decide) (hts (.fieldLink RX5 147 "HourWell$Son" "things" "I") (List.mem_of_getElem? (i := 5) rfl)) (fun _ h9 => h9) rfl dX5_givingHosts_31 ?_
        obtain ⟨o34, ho34, h⟩ := bnd_some h
        refine call_V0 (As := [.int x2, .int (vS 0 0), .int (vS 0 2)]) (rest := []) ⟨hx, hb, hml, hown, hts⟩ (c_X4_isGiven l G cI cZ aW vW x2 (vS 0 0) (vS 0 2) o34 ho34) (cwV 3 hts gX5_givingHosts_X4_isGiven rfl rfl rfl hdV_X4_isGiven ⟨Nat.le_of_ble_eq_true rfl, Nat.le_of_ble_eq_true rfl⟩) hEN hA hP hD hS [1, 2, 3, 4] rfl (by decide) 1 rfl rfl rfl hl.1 rfl (Nat.le_of_ble_eq_true rfl) dX5_givingHosts_34 ⟨Nat.le_of_ble_eq_true rfl, Nat.le_of_ble_eq_true rfl⟩ (fun H locs hP hS => ?_)
        refine lv_if_eq (tgt := 46) hx hb dX5_givingHosts_37 (by decide) (fun c37 => ?_) (fun c37 => ?_)
        · have h := (if_pos c37).symm.trans h
          exact j46 rc hrc x1 x2 h _ _ _ hP hD hS (lv_sub hl [0, 1, 2] rfl)
        · have h := (if_neg c37).symm.trans h
          refine lv_iload_n hx hb dX5_givingHosts_40 rfl (lv_at hl 1 rfl) ?_
          refine lv_iconst (v := (1 : Int32)) hx hb dX5_givingHosts_41 k_iconst_1 ?_
          refine lv_iload_n hx hb dX5_givingHosts_42 rfl (lv_at hl 2 rfl) ?_
          refine lv_ishl hx hb dX5_givingHosts_43 ?_
          refine lv_ior hx hb dX5_givingHosts_44 ?_
          refine lv_istore_n (lv' := [(1, .int (x1 ||| ((1 : Int32) <<< (x2 &&& 31)))), (0, .ref (aX 0)), (2, .int x2)]) hx hb dX5_givingHosts_45 rfl hl (by decide) rfl (fun ls hl => ?_)
          exact j46 rc hrc (x1 ||| ((1 : Int32) <<< (x2 &&& 31))) x2 h _ _ _ hP hD hS (lv_sub hl [1, 0, 2] rfl)
  unfold m_X5_givingHosts at h
  refine lv_iconst (v := (0 : Int32)) hx hb dX5_givingHosts_0 k_iconst_0 ?_
  refine lv_istore_n (lv' := [(1, .int (0 : Int32)), (0, .ref (aX 0))]) hx hb dX5_givingHosts_1 rfl hl (by decide) rfl (fun ls hl => ?_)
  refine lv_iconst (v := (0 : Int32)) hx hb dX5_givingHosts_2 k_iconst_0 ?_
  refine lv_istore_n (lv' := [(2, .int (0 : Int32)), (1, .int (0 : Int32)), (0, .ref (aX 0))]) hx hb dX5_givingHosts_3 rfl hl (by decide) rfl (fun ls hl => ?_)
  obtain ⟨o4_1, ho4_1, h⟩ := bnd_some h
  refine L4 o4_1 (fun o4_1e er H locs ls hP hD hS hl => ?_) FU (0 : Int32) (0 : Int32) ho4_1 _ _ _ hP hD hS (lv_sub hl [2, 1, 0] rfl)
  subst er
  refine lv_iload_n hx hb dX5_givingHosts_52 rfl (lv_at hl 0 rfl) ?_
  have hres := Option.some.inj h
  subst hres
  exact hRet 53 _ _ _ hP hD hS dX5_givingHosts_53
abbrev rm_X5_openRoads : Room := { frames := 4, cells := 0, slots := 0, locals := 90 }
theorem fi_X5_openRoads_X5 : ∀ w ∈ wsX50, w ∈ wsX5_openRoads := fun _ h => List.mem_cons_of_mem _ (List.mem_append_left _ (List.mem_append_left _ (List.mem_append_right _ h)))
theorem fi_X5_openRoads_X4 : ∀ w ∈ wsX40, w ∈ wsX5_openRoads := fun _ h => List.mem_cons_of_mem _ (List.mem_append_left _ (List.mem_append_right _ h))
theorem fi_X5_openRoads_X2 : ∀ w ∈ wsX20, w ∈ wsX5_openRoads := fun _ h => List.mem_cons_of_mem _ (List.mem_append_right _ h)
theorem hdV_X5_openRoads : yX5_openRoads.cls = RX5 ∧ yX5_openRoads.cls ≠ "java/lang/invoke/MethodHandle" ∧ yX5_openRoads.cls ≠ "java/lang/invoke/VarHandle" ∧ (parseMethodDescriptor yX5_openRoads.desc).map (fun d => d.parameters.length) = some 0 := by decide +kernel
set_option maxRecDepth 100000 in
set_option maxHeartbeats 4000000 in
theorem c_X5_openRoads (l : Launch) (G : va_G) (cI cZ : ClassId) (aX : Nat → Nat) (aR : Nat → Nat) (aY : Nat → Nat) (aC : Nat → Nat) (aW : Nat → Nat) (aD : Nat → Nat) (aS : Nat → Nat) (aI : Nat → Nat) (aJ : Nat → Nat) (vT : Int64) (vX : Ob) (vW : Ob) (vS : Ob)  (res : Int32) (h : m_X5_openRoads vX vW vS  = some res) : Ct l yX5_openRoads wsX5_openRoads rm_X5_openRoads G cI cZ [.ref (aX 0)] [oX5 aX aW aD aR aS aI aJ aY aC vX vT, oX4 aW vW, ai cI (aW 5) 7 (vW 5), ai cI (aW 6) 7 (vW 6), ai cI (aW 7) 7 (vW 7), ai cI (aW 8) 9 (vW 8), ai cI (aW 9) 9 (vW 9), ai cI (aW 10) 9 (vW 10), oX2 aS vS] (some (.int res)) [oX5 aX aW aD aR aS aI aJ aY aC vX vT, oX4 aW vW, ai cI (aW 5) 7 (vW 5), ai cI (aW 6) 7 (vW 6), ai cI (aW 7) 7 (vW 7), ai cI (aW 8) 9 (vW 8), ai cI (aW 9) 9 (vW 9), ai cI (aW 10) 9 (vW 10), oX2 aS vS] := by
  refine Ct.of_i (maxL := 3) (by decide) rfl (Nat.le_of_ble_eq_true rfl) ?_
  intro p e s m below meth c args hx hb hml hown hts A hA hEN hP hD hS Q hRet ls hl
  have hown : s.vm.findClass RX5 = some m.cls := hown
  have hl : lv_has ls 3 [(0, .ref (aX 0))] := hl
  have L4 : ∀ (out : Int32), (∀ ex : Int32, out = ex → ∀ (H : Heap) (locs : List Loc) (ls : Array Slot), va_P G vwCl [oX5 aX aW aD aR aS aI aJ aY aC vX vT, oX4 aW vW, ai cI (aW 5) 7 (vW 5), ai cI (aW 6) 7 (vW 6), ai cI (aW 7) 7 (vW 7), ai cI (aW 8) 9 (vW 8), ai cI (aW 9) 9 (vW 9), ai cI (aW 10) 9 (vW 10), oX2 aS vS] H → va_D A [oX5 aX aW aD aR aS aI aJ aY aC vX vT, oX4 aW vW, ai cI (aW 5) 7 (vW 5), ai cI (aW 6) 7 (vW 6), ai cI (aW 7) 7 (vW 7), ai cI (aW 8) 9 (vW 8), ai cI (aW 9) 9 (vW 9), ai cI (aW 10) 9 (vW 10), oX2 aS vS] → va_S A s.heap H locs → lv_has ls 3 [(1, .int ex)] → W p l e rm_X5_openRoads s m args below meth c H locs 0 0 Q (F0 m 35 ls [])) → ∀ (n : Nat) (x1 : Int32) (x2 : Int32), m_X5_openRoads_L4 vX vW vS n x1 x2 = some out → ∀ (H : Heap) (locs : List Loc) (ls : Array Slot), va_P G vwCl [oX5 aX aW aD aR aS aI aJ aY aC vX vT, oX4 aW vW, ai cI (aW 5) 7 (vW 5), ai cI (aW 6) 7 (vW 6), ai cI (aW 7) 7 (vW 7), ai cI (aW 8) 9 (vW 8), ai cI (aW 9) 9 (vW 9), ai cI (aW 10) 9 (vW 10), oX2 aS vS] H → va_D A [oX5 aX aW aD aR aS aI aJ aY aC vX vT, oX4 aW vW, ai cI (aW 5) 7 (vW 5), ai cI (aW 6) 7 (vW 6), ai cI (aW 7) 7 (vW 7), ai cI (aW 8) 9 (vW 8), ai cI (aW 9) 9 (vW 9), ai cI (aW 10) 9 (vW 10), oX2 aS vS] → va_S A s.heap H locs → lv_has ls 3 [(0, .ref (aX 0)), (1, .int x1), (2, .int x2)] → W p l e rm_X5_openRoads s m args below meth c H locs 0 0 Q (F0 m 4 ls []) := by
    intro out hKx
    have j29 : ∀ (rc : Int32 → Int32 → Option (Int32)), (∀ (x1 : Int32) (x2 : Int32), rc x1 x2 = some out → ∀ (H : Heap) (locs : List Loc) (ls : Array Slot), va_P G vwCl [oX5 aX aW aD aR aS aI aJ aY aC vX vT, oX4 aW vW, ai cI (aW 5) 7 (vW 5), ai cI (aW 6) 7 (vW 6), ai cI (aW 7) 7 (vW 7), ai cI (aW 8) 9 (vW 8), ai cI (aW 9) 9 (vW 9), ai cI (aW 10) 9 (vW 10), oX2 aS vS] H → va_D A [oX5 aX aW aD aR aS aI aJ aY aC vX vT, oX4 aW vW, ai cI (aW 5) 7 (vW 5), ai cI (aW 6) 7 (vW 6), ai cI (aW 7) 7 (vW 7), ai cI (aW 8) 9 (vW 8), ai cI (aW 9) 9 (vW 9), ai cI (aW 10) 9 (vW 10), oX2 aS vS] → va_S A s.heap H locs → lv_has ls 3 [(0, .ref (aX 0)), (1, .int x1), (2, .int x2)] → W p l e rm_X5_openRoads s m args below meth c H locs 0 0 Q (F0 m 4 ls [])) → ∀ (x1 : Int32) (x2 : Int32), m_X5_openRoads_j29 vX vW vS rc x1 x2 = some out → ∀ (H : Heap) (locs : List Loc) (ls : Array Slot), va_P G vwCl [oX5 aX aW aD aR aS aI aJ aY aC vX vT, oX4 aW vW, ai cI (aW 5) 7 (vW 5), ai cI (aW 6) 7 (vW 6), ai cI (aW 7) 7 (vW 7), ai cI (aW 8) 9 (vW 8), ai cI (aW 9) 9 (vW 9), ai cI (aW 10) 9 (vW 10), oX2 aS vS] H → va_D A [oX5 aX aW aD aR aS aI aJ aY aC vX vT, oX4 aW vW, ai cI (aW 5) 7 (vW 5), ai cI (aW 6) 7 (vW 6), ai cI (aW 7) 7 (vW 7), ai cI (aW 8) 9 (vW 8), ai cI (aW 9) 9 (vW 9), ai cI (aW 10) 9 (vW 10), oX2 aS vS] → va_S A s.heap H locs → lv_has ls 3 [(0, .ref (aX 0)), (1, .int x1), (2, .int x2)] → W p l e rm_X5_openRoads s m args below meth c H locs 0 0 Q (F0 m 29 ls []) := by
      intro rc hrc x1 x2 h H locs ls hP hD hS hl
      unfold m_X5_openRoads_j29 at h
      refine lv_iinc (v := (x2 + (1 : Int32))) (lv' := [(2, .int (x2 + (1 : Int32))), (0, .ref (aX 0)), (1, .int x1)]) hx hb dX5_openRoads_29 hl (k := 2) rfl (congrArg (fun z => x2 + z) k_iconst_1) (by decide) rfl (fun ls hl => ?_)
      refine lv_goto (tgt := 4) hx hb dX5_openRoads_32 (by decide) ?_
      exact hrc x1 (x2 + (1 : Int32)) h _ _ _ hP hD hS (lv_sub hl [1, 2, 0] rfl)
    intro n
    induction n with
    | zero => intro x1 x2 h; exact nomatch (show (none : Option (Int32)) = some out from h)
    | succ n hrc =>
      intro x1 x2 h H locs ls hP hD hS hl
      have h : m_X5_openRoads_L4B vX vW vS (m_X5_openRoads_L4 vX vW vS n) x1 x2 = some out := h
      generalize m_X5_openRoads_L4 vX vW vS n = rc at h hrc
      unfold m_X5_openRoads_L4B at h
      refine lv_iload_n hx hb dX5_openRoads_4 rfl (lv_at hl 2 rfl) ?_
      refine lv_aload_n hx hb dX5_openRoads_5 rfl (lv_at hl 0 rfl) ?_
      refine va_get (D := G) (ci := 5) (v := .ref (aW 0)) (C := RX5) (T := TX5) (N := 11) hx hb hts fi_X5_openRoads_X5 hown hEN.1 hP 0 rfl rfl 2 (by decide) (hts (.fieldLink RX5 20 "HourWell" "world" "LHourWell$World;") (List.mem_of_getElem? (i := 1) rfl)) (fun _ h9 => h9) rfl dX5_openRoads_6 ?_
      refine va_get (D := G) (ci := 4) (v := .int (vW 0 1)) (C := RX4) (T := TX4) (N := 13) hx hb hts fi_X5_openRoads_X4 hown hEN.1 hP 1 rfl rfl 1 (by decide) (hts (.fieldLink RX5 175 "HourWell$World" "roads" "I") (List.mem_of_getElem? (i := 2) rfl)) (fun _ h9 => h9) rfl dX5_openRoads_9 ?_
      refine lv_icmp_ge (tgt := 35) hx hb dX5_openRoads_12 (by decide) (fun c12 => ?_) (fun c12 => ?_)
      · have h := (if_pos c12).symm.trans h
        exact hKx _ (Option.some.inj h).symm _ _ _ hP hD hS (lv_sub hl [1] rfl)
      · have h := (if_neg c12).symm.trans h
        refine lv_aload_n hx hb dX5_openRoads_15 rfl (lv_at hl 0 rfl) ?_
        refine lv_iload_n hx hb dX5_openRoads_16 rfl (lv_at hl 2 rfl) ?_
        obtain ⟨o17, ho17, h⟩ := bnd_some h
        refine call_V0 (As := [.int x2]) (rest := []) ⟨hx, hb, hml, hown, hts⟩ (c_X5_canWalk l G cI cZ aX aR aY aC aW aD aS aI aJ vT vX vW vS x2 o17 ho17) (cwV 1 hts gX5_openRoads_X5_canWalk rfl rfl rfl hdV_X5_canWalk ⟨Nat.le_of_ble_eq_true rfl, Nat.le_of_ble_eq_true rfl⟩) hEN hA hP hD hS [0, 1, 2, 3, 4, 5, 6, 7, 8] rfl (by decide) 0 rfl rfl rfl hl.1 rfl (Nat.le_of_ble_eq_true rfl) dX5_openRoads_17 ⟨Nat.le_of_ble_eq_true rfl, Nat.le_of_ble_eq_true rfl⟩ (fun H locs hP hS => ?_)
        refine lv_if_eq (tgt := 29) hx hb dX5_openRoads_20 (by decide) (fun c20 => ?_) (fun c20 => ?_)
        · have h := (if_pos c20).symm.trans h
          exact j29 rc hrc x1 x2 h _ _ _ hP hD hS (lv_sub hl [0, 1, 2] rfl)
        · have h := (if_neg c20).symm.trans h
          refine lv_iload_n hx hb dX5_openRoads_23 rfl (lv_at hl 1 rfl) ?_
          refine lv_iconst (v := (1 : Int32)) hx hb dX5_openRoads_24 k_iconst_1 ?_
          refine lv_iload_n hx hb dX5_openRoads_25 rfl (lv_at hl 2 rfl) ?_
          refine lv_ishl hx hb dX5_openRoads_26 ?_
          refine lv_ior hx hb dX5_openRoads_27 ?_
          refine lv_istore_n (lv' := [(1, .int (x1 ||| ((1 : Int32) <<< (x2 &&& 31)))), (0, .ref (aX 0)), (2, .int x2)]) hx hb dX5_openRoads_28 rfl hl (by decide) rfl (fun ls hl => ?_)
          exact j29 rc hrc (x1 ||| ((1 : Int32) <<< (x2 &&& 31))) x2 h _ _ _ hP hD hS (lv_sub hl [1, 0, 2] rfl)
  unfold m_X5_openRoads at h
  refine lv_iconst (v := (0 : Int32)) hx hb dX5_openRoads_0 k_iconst_0 ?_
  refine lv_istore_n (lv' := [(1, .int (0 : Int32)), (0, .ref (aX 0))]) hx hb dX5_openRoads_1 rfl hl (by decide) rfl (fun ls hl => ?_)
  refine lv_iconst (v := (0 : Int32)) hx hb dX5_openRoads_2 k_iconst_0 ?_
  refine lv_istore_n (lv' := [(2, .int (0 : Int32)), (1, .int (0 : Int32)), (0, .ref (aX 0))]) hx hb dX5_openRoads_3 rfl hl (by decide) rfl (fun ls hl => ?_)
  obtain ⟨o4_1, ho4_1, h⟩ := bnd_some h
  refine L4 o4_1 (fun o4_1e er H locs ls hP hD hS hl => ?_) FU (0 : Int32) (0 : Int32) ho4_1 _ _ _ hP hD hS (lv_sub hl [2, 1, 0] rfl)
  subst er
  refine lv_iload_n hx hb dX5_openRoads_35 rfl (lv_at hl 0 rfl) ?_
  have hres := Option.some.inj h
  subst hres
  exact hRet 36 _ _ _ hP hD hS dX5_openRoads_36
abbrev rm_X5_now : Room := { frames := 5, cells := 0, slots := 0, locals := 112 }
theorem fi_X5_now_X5 : ∀ w ∈ wsX50, w ∈ wsX5_now := fun _ h => List.mem_cons_of_mem _ (List.mem_append_left _ (List.mem_append_left _ (List.mem_append_right _ h)))
theorem fi_X5_now_X4 : ∀ w ∈ wsX40, w ∈ wsX5_now := fun _ h => List.mem_cons_of_mem _ (List.mem_append_left _ (List.mem_append_right _ h))
theorem fi_X5_now_X2 : ∀ w ∈ wsX20, w ∈ wsX5_now := fun _ h => List.mem_cons_of_mem _ (List.mem_append_right _ h)
theorem hdV_X5_now : yX5_now.cls = RX5 ∧ yX5_now.cls ≠ "java/lang/invoke/MethodHandle" ∧ yX5_now.cls ≠ "java/lang/invoke/VarHandle" ∧ (parseMethodDescriptor yX5_now.desc).map (fun d => d.parameters.length) = some 1 := by decide +kernel
set_option maxRecDepth 100000 in
set_option maxHeartbeats 4000000 in
theorem c_X5_now (l : Launch) (G : va_G) (cI cZ : ClassId) (aX : Nat → Nat) (aR : Nat → Nat) (aY : Nat → Nat) (aC : Nat → Nat) (aW : Nat → Nat) (aD : Nat → Nat) (aS : Nat → Nat) (aI : Nat → Nat) (aJ : Nat → Nat) (vT : Int64) (vX : Ob) (vW : Ob) (vS : Ob) (x1 : Int32) (res : Int32) (h : m_X5_now vX vW vS x1 = some res) : Ct l yX5_now wsX5_now rm_X5_now G cI cZ [.ref (aX 0), .int x1] [oX5 aX aW aD aR aS aI aJ aY aC vX vT, oX4 aW vW, ai cI (aW 5) 7 (vW 5), ai cI (aW 6) 7 (vW 6), ai cI (aW 7) 7 (vW 7), ai cI (aW 8) 9 (vW 8), ai cI (aW 9) 9 (vW 9), ai cI (aW 10) 9 (vW 10), ai cI (aW 11) 6 (vW 11), ai cI (aW 12) 6 (vW 12), ai cI (aW 13) 6 (vW 13), oX2 aS vS] (some (.int res)) [oX5 aX aW aD aR aS aI aJ aY aC vX vT, oX4 aW vW, ai cI (aW 5) 7 (vW 5), ai cI (aW 6) 7 (vW 6), ai cI (aW 7) 7 (vW 7), ai cI (aW 8) 9 (vW 8), ai cI (aW 9) 9 (vW 9), ai cI (aW 10) 9 (vW 10), ai cI (aW 11) 6 (vW 11), ai cI (aW 12) 6 (vW 12), ai cI (aW 13) 6 (vW 13), oX2 aS vS] := by
  refine Ct.of_i (maxL := 2) (by decide) rfl (Nat.le_of_ble_eq_true rfl) ?_
  intro p e s m below meth c args hx hb hml hown hts A hA hEN hP hD hS Q hRet ls hl
  have hown : s.vm.findClass RX5 = some m.cls := hown
  have hl : lv_has ls 2 [(0, .ref (aX 0)), (1, .int x1)] := hl
  unfold m_X5_now at h
  refine lv_iload_n hx hb dX5_now_0 rfl (lv_at hl 1 rfl) ?_
  by_cases c1_0 : x1 = (0 : Int32)
  · have h := (if_pos c1_0).symm.trans h
    refine lv_tableIn (off := 39) (tgt := 40) hx hb dX5_now_1 (by rw [c1_0]; decide) (by rw [c1_0]; decide) (by rw [c1_0]; decide) (by decide) ?_
    refine lv_aload_n hx hb dX5_now_40 rfl (lv_at hl 0 rfl) ?_
    refine va_get (D := G) (ci := 5) (v := .ref (aW 0)) (C := RX5) (T := TX5) (N := 11) hx hb hts fi_X5_now_X5 hown hEN.1 hP 0 rfl rfl 2 (by decide) (hts (.fieldLink RX5 20 "HourWell" "world" "LHourWell$World;") (List.mem_of_getElem? (i := 1) rfl)) (fun _ h9 => h9) rfl dX5_now_41 ?_
    refine va_get (D := G) (ci := 4) (v := .int (vW 0 0)) (C := RX4) (T := TX4) (N := 13) hx hb hts fi_X5_now_X4 hown hEN.1 hP 1 rfl rfl 0 (by decide) (hts (.fieldLink RX5 153 "HourWell$World" "places" "I") (List.mem_of_getElem? (i := 2) rfl)) (fun _ h9 => h9) rfl dX5_now_44 ?_
    refine lv_if_ne (tgt := 55) hx hb dX5_now_47 (by decide) (fun c47 => ?_) (fun c47 => ?_)
    · have h := (if_neg c47).symm.trans h
      refine lv_aload_n hx hb dX5_now_55 rfl (lv_at hl 0 rfl) ?_
      refine va_get (D := G) (ci := 5) (v := .ref (aS 0)) (C := RX5) (T := TX5) (N := 11) hx hb hts fi_X5_now_X5 hown hEN.1 hP 0 rfl rfl 5 (by decide) (hts (.fieldLink RX5 39 "HourWell" "son" "LHourWell$Son;") (List.mem_of_getElem? (i := 3) rfl)) (fun _ h9 => h9) rfl dX5_now_56 ?_
      refine va_get (D := G) (ci := 2) (v := .int (vS 0 0)) (C := RX2) (T := TX2) (N := 8) hx hb hts fi_X5_now_X2 hown hEN.1 hP 11 rfl rfl 0 (by decide) (hts (.fieldLink RX5 134 "HourWell$Son" "place" "I") (List.mem_of_getElem? (i := 4) rfl)) (fun _ h9 => h9) rfl dX5_now_59 ?_
      have hres := Option.some.inj h
      subst hres
      exact hRet 62 _ _ _ hP hD hS dX5_now_62
    · have h := (if_pos c47).symm.trans h
      refine lv_bipush (v := (-9 : Int32)) hx hb dX5_now_50 k_bipush_n9 ?_
      refine lv_goto (tgt := 62) hx hb dX5_now_52 (by decide) ?_
      have hres := Option.some.inj h
      subst hres
      exact hRet 62 _ _ _ hP hD hS dX5_now_62
  · have h := (if_neg c1_0).symm.trans h
    by_cases c1_1 : x1 = (1 : Int32)
    · have h := (if_pos c1_1).symm.trans h
      refine lv_tableIn (off := 62) (tgt := 63) hx hb dX5_now_1 (by rw [c1_1]; decide) (by rw [c1_1]; decide) (by rw [c1_1]; decide) (by decide) ?_
      refine lv_aload_n hx hb dX5_now_63 rfl (lv_at hl 0 rfl) ?_
      refine va_get (D := G) (ci := 5) (v := .ref (aS 0)) (C := RX5) (T := TX5) (N := 11) hx hb hts fi_X5_now_X5 hown hEN.1 hP 0 rfl rfl 5 (by decide) (hts (.fieldLink RX5 39 "HourWell" "son" "LHourWell$Son;") (List.mem_of_getElem? (i := 3) rfl)) (fun _ h9 => h9) rfl dX5_now_64 ?_
      refine va_get (D := G) (ci := 2) (v := .int (vS 0 1)) (C := RX2) (T := TX2) (N := 8) hx hb hts fi_X5_now_X2 hown hEN.1 hP 11 rfl rfl 1 (by decide) (hts (.fieldLink RX5 144 "HourWell$Son" "hour" "I") (List.mem_of_getElem? (i := 5) rfl)) (fun _ h9 => h9) rfl dX5_now_67 ?_
      have hres := Option.some.inj h
      subst hres
      exact hRet 70 _ _ _ hP hD hS dX5_now_70
    · have h := (if_neg c1_1).symm.trans h
      by_cases c1_2 : x1 = (2 : Int32)
      · have h := (if_pos c1_2).symm.trans h
        refine lv_tableIn (off := 70) (tgt := 71) hx hb dX5_now_1 (by rw [c1_2]; decide) (by rw [c1_2]; decide) (by rw [c1_2]; decide) (by decide) ?_
        refine lv_aload_n hx hb dX5_now_71 rfl (lv_at hl 0 rfl) ?_
        refine va_get (D := G) (ci := 5) (v := .ref (aS 0)) (C := RX5) (T := TX5) (N := 11) hx hb hts fi_X5_now_X5 hown hEN.1 hP 0 rfl rfl 5 (by decide) (hts (.fieldLink RX5 39 "HourWell" "son" "LHourWell$Son;") (List.mem_of_getElem? (i := 3) rfl)) (fun _ h9 => h9) rfl dX5_now_72 ?_
        refine va_get (D := G) (ci := 2) (v := .int (vS 0 1)) (C := RX2) (T := TX2) (N := 8) hx hb hts fi_X5_now_X2 hown hEN.1 hP 11 rfl rfl 1 (by decide) (hts (.fieldLink RX5 144 "HourWell$Son" "hour" "I") (List.mem_of_getElem? (i := 5) rfl)) (fun _ h9 => h9) rfl dX5_now_75 ?_
        refine lv_bipush (v := (24 : Int32)) hx hb dX5_now_78 k_bipush_24 ?_
        refine lv_rem hx hb dX5_now_80 (by decide) ?_
        have hres := Option.some.inj h
        subst hres
        exact hRet 81 _ _ _ hP hD hS dX5_now_81
      · have h := (if_neg c1_2).symm.trans h
        by_cases c1_3 : x1 = (3 : Int32)
        · have h := (if_pos c1_3).symm.trans h
          refine lv_tableIn (off := 81) (tgt := 82) hx hb dX5_now_1 (by rw [c1_3]; decide) (by rw [c1_3]; decide) (by rw [c1_3]; decide) (by decide) ?_
          refine lv_aload_n hx hb dX5_now_82 rfl (lv_at hl 0 rfl) ?_
          refine va_get (D := G) (ci := 5) (v := .ref (aS 0)) (C := RX5) (T := TX5) (N := 11) hx hb hts fi_X5_now_X5 hown hEN.1 hP 0 rfl rfl 5 (by decide) (hts (.fieldLink RX5 39 "HourWell" "son" "LHourWell$Son;") (List.mem_of_getElem? (i := 3) rfl)) (fun _ h9 => h9) rfl dX5_now_83 ?_
          refine va_get (D := G) (ci := 2) (v := .int (vS 0 2)) (C := RX2) (T := TX2) (N := 8) hx hb hts fi_X5_now_X2 hown hEN.1 hP 11 rfl rfl 2 (by decide) (hts (.fieldLink RX5 147 "HourWell$Son" "things" "I") (List.mem_of_getElem? (i := 6) rfl)) (fun _ h9 => h9) rfl dX5_now_86 ?_
          have hres := Option.some.inj h
          subst hres
          exact hRet 89 _ _ _ hP hD hS dX5_now_89
        · have h := (if_neg c1_3).symm.trans h
          by_cases c1_4 : x1 = (4 : Int32)
          · have h := (if_pos c1_4).symm.trans h
            refine lv_tableIn (off := 89) (tgt := 90) hx hb dX5_now_1 (by rw [c1_4]; decide) (by rw [c1_4]; decide) (by rw [c1_4]; decide) (by decide) ?_
            refine lv_aload_n hx hb dX5_now_90 rfl (lv_at hl 0 rfl) ?_
            obtain ⟨o91, ho91, h⟩ := bnd_some h
            refine call_V0 (As := []) (rest := []) ⟨hx, hb, hml, hown, hts⟩ (c_X5_openRoads l G cI cZ aX aR aY aC aW aD aS aI aJ vT vX vW vS o91 ho91) (cwV 0 hts gX5_now_X5_openRoads rfl rfl rfl hdV_X5_openRoads ⟨Nat.le_of_ble_eq_true rfl, Nat.le_of_ble_eq_true rfl⟩) hEN hA hP hD hS [0, 1, 2, 3, 4, 5, 6, 7, 11] rfl (by decide) 0 rfl rfl rfl hl.1 rfl (Nat.le_of_ble_eq_true rfl) dX5_now_91 ⟨Nat.le_of_ble_eq_true rfl, Nat.le_of_ble_eq_true rfl⟩ (fun H locs hP hS => ?_)
            have hres := Option.some.inj h
            subst hres
            exact hRet 94 _ _ _ hP hD hS dX5_now_94
          · have h := (if_neg c1_4).symm.trans h
            by_cases c1_5 : x1 = (5 : Int32)
            · have h := (if_pos c1_5).symm.trans h
              refine lv_tableIn (off := 94) (tgt := 95) hx hb dX5_now_1 (by rw [c1_5]; decide) (by rw [c1_5]; decide) (by rw [c1_5]; decide) (by decide) ?_
              refine lv_aload_n hx hb dX5_now_95 rfl (lv_at hl 0 rfl) ?_
              obtain ⟨o96, ho96, h⟩ := bnd_some h
              refine call_V0 (As := []) (rest := []) ⟨hx, hb, hml, hown, hts⟩ (c_X5_givingHosts l G cI cZ aX aR aY aC aW aD aS aI aJ vT vX vW vS o96 ho96) (cwV 0 hts gX5_now_X5_givingHosts rfl rfl rfl hdV_X5_givingHosts ⟨Nat.le_of_ble_eq_true rfl, Nat.le_of_ble_eq_true rfl⟩) hEN hA hP hD hS [0, 1, 8, 9, 10, 11] rfl (by decide) 0 rfl rfl rfl hl.1 rfl (Nat.le_of_ble_eq_true rfl) dX5_now_96 ⟨Nat.le_of_ble_eq_true rfl, Nat.le_of_ble_eq_true rfl⟩ (fun H locs hP hS => ?_)
              have hres := Option.some.inj h
              subst hres
              exact hRet 99 _ _ _ hP hD hS dX5_now_99
            · have h := (if_neg c1_5).symm.trans h
              refine lv_tableOut (tgt := 100) hx hb dX5_now_1 (by have e0 := lv_neT c1_0 (a := 0) (by decide); have e1 := lv_neT c1_1 (a := 1) (by decide); have e2 := lv_neT c1_2 (a := 2) (by decide); have e3 := lv_neT c1_3 (a := 3) (by decide); have e4 := lv_neT c1_4 (a := 4) (by decide); have e5 := lv_neT c1_5 (a := 5) (by decide);  omega) (by decide) ?_
              refine lv_iconst (v := (-1 : Int32)) hx hb dX5_now_100 k_iconst_n1 ?_
              have hres := Option.some.inj h
              subst hres
              exact hRet 101 _ _ _ hP hD hS dX5_now_101
abbrev rm_X5_soonest : Room := { frames := 6, cells := 0, slots := 0, locals := 145 }
theorem fi_X5_soonest_X5 : ∀ w ∈ wsX50, w ∈ wsX5_soonest := fun _ h => List.mem_cons_of_mem _ (List.mem_append_left _ (List.mem_append_left _ (List.mem_append_left _ (List.mem_append_right _ h))))
theorem fi_X5_soonest_X3 : ∀ w ∈ wsX30, w ∈ wsX5_soonest := fun _ h => List.mem_cons_of_mem _ (List.mem_append_left _ (List.mem_append_left _ (List.mem_append_right _ h)))
theorem fi_X5_soonest_X2 : ∀ w ∈ wsX20, w ∈ wsX5_soonest := fun _ h => List.mem_cons_of_mem _ (List.mem_append_left _ (List.mem_append_right _ h))
theorem fi_X5_soonest_X4 : ∀ w ∈ wsX40, w ∈ wsX5_soonest := fun _ h => List.mem_cons_of_mem _ (List.mem_append_right _ h)
theorem hdV_X5_soonest : yX5_soonest.cls = RX5 ∧ yX5_soonest.cls ≠ "java/lang/invoke/MethodHandle" ∧ yX5_soonest.cls ≠ "java/lang/invoke/VarHandle" ∧ (parseMethodDescriptor yX5_soonest.desc).map (fun d => d.parameters.length) = some 2 := by decide +kernel
set_option maxRecDepth 100000 in
set_option maxHeartbeats 4000000 in
theorem c_X5_soonest (l : Launch) (G : va_G) (cI cZ : ClassId) (aX : Nat → Nat) (aR : Nat → Nat) (aY : Nat → Nat) (aC : Nat → Nat) (aW : Nat → Nat) (aD : Nat → Nat) (aS : Nat → Nat) (aI : Nat → Nat) (aJ : Nat → Nat) (vT : Int64) (vX : Ob) (vY : Ob) (vW : Ob) (vS : Ob) (x1 : Int32) (x2 : Int32) (res : Int32 × Ob) (h : m_X5_soonest vX vY vW vS x1 x2 = some res) : Ct l yX5_soonest wsX5_soonest rm_X5_soonest G cI cZ [.ref (aX 0), .int x1, .int x2] [oX5 aX aW aD aR aS aI aJ aY aC vX vT, oX3 aY aW aS vY, ai cI (aY 3) 427 (vY 3), ai cI (aY 4) 7 (vY 4), ai cI (aY 5) 125 (vY 5), oX4 aW vW, ai cI (aW 5) 7 (vW 5), ai cI (aW 6) 7 (vW 6), ai cI (aW 7) 7 (vW 7), ai cI (aW 8) 9 (vW 8), ai cI (aW 9) 9 (vW 9), ai cI (aW 10) 9 (vW 10), ai cI (aW 11) 6 (vW 11), ai cI (aW 12) 6 (vW 12), ai cI (aW 13) 6 (vW 13), oX2 aS vS] (some (.int res.1)) [oX5 aX aW aD aR aS aI aJ aY aC vX vT, oX3 aY aW aS res.2, ai cI (aY 3) 427 (res.2 3), ai cI (aY 4) 7 (res.2 4), ai cI (aY 5) 125 (res.2 5), oX4 aW vW, ai cI (aW 5) 7 (vW 5), ai cI (aW 6) 7 (vW 6), ai cI (aW 7) 7 (vW 7), ai cI (aW 8) 9 (vW 8), ai cI (aW 9) 9 (vW 9), ai cI (aW 10) 9 (vW 10), ai cI (aW 11) 6 (vW 11), ai cI (aW 12) 6 (vW 12), ai cI (aW 13) 6 (vW 13), oX2 aS vS] := by
  refine Ct.of_i (maxL := 3) (by decide) rfl (Nat.le_of_ble_eq_true rfl) ?_
  intro p e s m below meth c args hx hb hml hown hts A hA hEN hP hD hS Q hRet ls hl
  have hown : s.vm.findClass RX5 = some m.cls := hown
  have hl : lv_has ls 3 [(0, .ref (aX 0)), (1, .int x1), (2, .int x2)] := hl
  unfold m_X5_soonest at h
  refine lv_iload_n hx hb dX5_soonest_0 rfl (lv_at hl 1 rfl) ?_
  obtain ⟨o1, ho1, h⟩ := bnd_some h
  refine call_S0 (As := [.int x1]) (rest := []) ⟨hx, hb, hml, hown, hts⟩ (c_X5_isThing l G cI cZ  x1 o1 ho1) (va_cwS 1 hts gX5_soonest_X5_isThing rfl rfl rfl hdS_X5_isThing ⟨Nat.le_of_ble_eq_true rfl, Nat.le_of_ble_eq_true rfl⟩) hEN hA hP hD hS [] rfl (by decide) rfl hl.1 rfl (Nat.le_of_ble_eq_true rfl) dX5_soonest_1 ⟨Nat.le_of_ble_eq_true rfl, Nat.le_of_ble_eq_true rfl⟩ (fun H locs hP hS => ?_)
  refine lv_if_eq (tgt := 17) hx hb dX5_soonest_4 (by decide) (fun c4 => ?_) (fun c4 => ?_)
  · have h := (if_pos c4).symm.trans h
    refine lv_iconst (v := (-1 : Int32)) hx hb dX5_soonest_17 k_iconst_n1 ?_
    have hres := Option.some.inj h
    subst hres
    exact hRet 18 _ _ _ hP hD hS dX5_soonest_18
  · have h := (if_neg c4).symm.trans h
    refine lv_iload_n hx hb dX5_soonest_7 rfl (lv_at hl 2 rfl) ?_
    refine lv_iconst (v := (-1 : Int32)) hx hb dX5_soonest_8 k_iconst_n1 ?_
    refine lv_bipush (v := (99 : Int32)) hx hb dX5_soonest_9 k_bipush_99 ?_
    obtain ⟨o11, ho11, h⟩ := bnd_some h
    refine call_S0 (As := [.int x2, .int (-1 : Int32), .int (99 : Int32)]) (rest := []) ⟨hx, hb, hml, hown, hts⟩ (c_X5_isWithin l G cI cZ  x2 (-1 : Int32) (99 : Int32) o11 ho11) (va_cwS 3 hts gX5_soonest_X5_isWithin rfl rfl rfl hdS_X5_isWithin ⟨Nat.le_of_ble_eq_true rfl, Nat.le_of_ble_eq_true rfl⟩) hEN hA hP hD hS [] rfl (by decide) rfl hl.1 rfl (Nat.le_of_ble_eq_true rfl) dX5_soonest_11 ⟨Nat.le_of_ble_eq_true rfl, Nat.le_of_ble_eq_true rfl⟩ (fun H locs hP hS => ?_)
    refine lv_if_ne (tgt := 19) hx hb dX5_soonest_14 (by decide) (fun c14 => ?_) (fun c14 => ?_)
    · have h := (if_neg c14).symm.trans h
      refine lv_aload_n hx hb dX5_soonest_19 rfl (lv_at hl 0 rfl) ?_
      refine va_get (D := G) (ci := 5) (v := .ref (aY 0)) (C := RX5) (T := TX5) (N := 11) hx hb hts fi_X5_soonest_X5 hown hEN.1 hP 0 rfl rfl 8 (by decide) (hts (.fieldLink RX5 54 "HourWell" "ways" "LHourWell$Ways;") (List.mem_of_getElem? (i := 1) rfl)) (fun _ h9 => h9) rfl dX5_soonest_20 ?_
      refine lv_iload_n hx hb dX5_soonest_23 rfl (lv_at hl 1 rfl) ?_
      obtain ⟨o24, ho24, h⟩ := bnd_some h
      refine call_VJ (wr := [oX5 aX aW aD aR aS aI aJ aY aC vX vT]) (As := [.int x1]) (rest := []) ⟨hx, hb, hml, hown, hts⟩ (c_X3_findWay l G cI cZ aY aW aS vY vW vS x1 o24 ho24) (cwV 1 hts gX5_soonest_X3_findWay rfl rfl rfl hdV_X3_findWay ⟨Nat.le_of_ble_eq_true rfl, Nat.le_of_ble_eq_true rfl⟩) hEN hA hP hD hS [1, 2, 3, 4, 5, 6, 7, 8, 9, 10, 11, 12, 13, 14, 15] [0] rfl (by decide) rfl (by decide) (by decide) 1 rfl rfl rfl hl.1 rfl (Nat.le_of_ble_eq_true rfl) dX5_soonest_24 ⟨Nat.le_of_ble_eq_true rfl, Nat.le_of_ble_eq_true rfl⟩ (fun H locs hP hD hS => ?_)
      have hP : va_P G vwCl [oX5 aX aW aD aR aS aI aJ aY aC vX vT, oX3 aY aW aS o24, ai cI (aY 3) 427 (o24 3), ai cI (aY 4) 7 (o24 4), ai cI (aY 5) 125 (o24 5), oX4 aW vW, ai cI (aW 5) 7 (vW 5), ai cI (aW 6) 7 (vW 6), ai cI (aW 7) 7 (vW 7), ai cI (aW 8) 9 (vW 8), ai cI (aW 9) 9 (vW 9), ai cI (aW 10) 9 (vW 10), ai cI (aW 11) 6 (vW 11), ai cI (aW 12) 6 (vW 12), ai cI (aW 13) 6 (vW 13), oX2 aS vS] H := hP
      have hD : va_D A [oX5 aX aW aD aR aS aI aJ aY aC vX vT, oX3 aY aW aS o24, ai cI (aY 3) 427 (o24 3), ai cI (aY 4) 7 (o24 4), ai cI (aY 5) 125 (o24 5), oX4 aW vW, ai cI (aW 5) 7 (vW 5), ai cI (aW 6) 7 (vW 6), ai cI (aW 7) 7 (vW 7), ai cI (aW 8) 9 (vW 8), ai cI (aW 9) 9 (vW 9), ai cI (aW 10) 9 (vW 10), ai cI (aW 11) 6 (vW 11), ai cI (aW 12) 6 (vW 12), ai cI (aW 13) 6 (vW 13), oX2 aS vS] := hD
      refine lv_iload_n hx hb dX5_soonest_27 rfl (lv_at hl 2 rfl) ?_
      refine lv_iconst (v := (-1 : Int32)) hx hb dX5_soonest_28 k_iconst_n1 ?_
      refine lv_icmp_ne (tgt := 42) hx hb dX5_soonest_29 (by decide) (fun c29 => ?_) (fun c29 => ?_)
      · have h := (if_neg c29).symm.trans h
        refine lv_aload_n hx hb dX5_soonest_42 rfl (lv_at hl 0 rfl) ?_
        refine va_get (D := G) (ci := 5) (v := .ref (aY 0)) (C := RX5) (T := TX5) (N := 11) hx hb hts fi_X5_soonest_X5 hown hEN.1 hP 0 rfl rfl 8 (by decide) (hts (.fieldLink RX5 54 "HourWell" "ways" "LHourWell$Ways;") (List.mem_of_getElem? (i := 1) rfl)) (fun _ h9 => h9) rfl dX5_soonest_43 ?_
        refine lv_iload_n hx hb dX5_soonest_46 rfl (lv_at hl 2 rfl) ?_
        obtain ⟨o47, ho47, h⟩ := bnd_some h
        refine call_V0 (As := [.int x2]) (rest := []) ⟨hx, hb, hml, hown, hts⟩ (c_X3_stepOfWay l G cI cZ aY aW aS o24 x2 o47 ho47) (cwV 1 hts gX5_soonest_X3_stepOfWay rfl rfl rfl hdV_X3_stepOfWay ⟨Nat.le_of_ble_eq_true rfl, Nat.le_of_ble_eq_true rfl⟩) hEN hA hP hD hS [1, 4] rfl (by decide) 1 rfl rfl rfl hl.1 rfl (Nat.le_of_ble_eq_true rfl) dX5_soonest_47 ⟨Nat.le_of_ble_eq_true rfl, Nat.le_of_ble_eq_true rfl⟩ (fun H locs hP hS => ?_)
        have hres := Option.some.inj h
        subst hres
        exact hRet 50 _ _ _ hP hD hS dX5_soonest_50
      · have h := (if_pos c29).symm.trans h
        refine lv_aload_n hx hb dX5_soonest_32 rfl (lv_at hl 0 rfl) ?_
        refine va_get (D := G) (ci := 5) (v := .ref (aY 0)) (C := RX5) (T := TX5) (N := 11) hx hb hts fi_X5_soonest_X5 hown hEN.1 hP 0 rfl rfl 8 (by decide) (hts (.fieldLink RX5 54 "HourWell" "ways" "LHourWell$Ways;") (List.mem_of_getElem? (i := 1) rfl)) (fun _ h9 => h9) rfl dX5_soonest_33 ?_
        refine va_get (D := G) (ci := 3) (v := .int (o24 0 6)) (C := RX3) (T := TX3) (N := 14) hx hb hts fi_X5_soonest_X3 hown hEN.1 hP 1 rfl rfl 6 (by decide) (hts (.fieldLink RX5 188 "HourWell$Ways" "wayHours" "I") (List.mem_of_getElem? (i := 2) rfl)) (fun _ h9 => h9) rfl dX5_soonest_36 ?_
        refine lv_goto (tgt := 50) hx hb dX5_soonest_39 (by decide) ?_
        have hres := Option.some.inj h
        subst hres
        exact hRet 50 _ _ _ hP hD hS dX5_soonest_50
    · have h := (if_pos c14).symm.trans h
      refine lv_iconst (v := (-1 : Int32)) hx hb dX5_soonest_17 k_iconst_n1 ?_
      have hres := Option.some.inj h
      subst hres
      exact hRet 18 _ _ _ hP hD hS dX5_soonest_18
abbrev rm_X5_latest : Room := { frames := 6, cells := 0, slots := 0, locals := 144 }
theorem fi_X5_latest_X5 : ∀ w ∈ wsX50, w ∈ wsX5_latest := fun _ h => List.mem_cons_of_mem _ (List.mem_append_left _ (List.mem_append_left _ (List.mem_append_left _ (List.mem_append_right _ h))))
theorem fi_X5_latest_X3 : ∀ w ∈ wsX30, w ∈ wsX5_latest := fun _ h => List.mem_cons_of_mem _ (List.mem_append_left _ (List.mem_append_left _ (List.mem_append_right _ h)))
theorem fi_X5_latest_X2 : ∀ w ∈ wsX20, w ∈ wsX5_latest := fun _ h => List.mem_cons_of_mem _ (List.mem_append_left _ (List.mem_append_right _ h))
theorem fi_X5_latest_X4 : ∀ w ∈ wsX40, w ∈ wsX5_latest := fun _ h => List.mem_cons_of_mem _ (List.mem_append_right _ h)
theorem hdV_X5_latest : yX5_latest.cls = RX5 ∧ yX5_latest.cls ≠ "java/lang/invoke/MethodHandle" ∧ yX5_latest.cls ≠ "java/lang/invoke/VarHandle" ∧ (parseMethodDescriptor yX5_latest.desc).map (fun d => d.parameters.length) = some 2 := by decide +kernel
set_option maxRecDepth 100000 in
set_option maxHeartbeats 4000000 in
theorem c_X5_latest (l : Launch) (G : va_G) (cI cZ : ClassId) (aX : Nat → Nat) (aR : Nat → Nat) (aY : Nat → Nat) (aC : Nat → Nat) (aW : Nat → Nat) (aD : Nat → Nat) (aS : Nat → Nat) (aI : Nat → Nat) (aJ : Nat → Nat) (vT : Int64) (vX : Ob) (vY : Ob) (vW : Ob) (vS : Ob) (x1 : Int32) (x2 : Int32) (res : Int32 × Ob) (h : m_X5_latest vX vY vW vS x1 x2 = some res) : Ct l yX5_latest wsX5_latest rm_X5_latest G cI cZ [.ref (aX 0), .int x1, .int x2] [oX5 aX aW aD aR aS aI aJ aY aC vX vT, oX3 aY aW aS vY, ai cI (aY 3) 427 (vY 3), ai cI (aY 4) 7 (vY 4), ai cI (aY 5) 125 (vY 5), oX4 aW vW, ai cI (aW 5) 7 (vW 5), ai cI (aW 6) 7 (vW 6), ai cI (aW 7) 7 (vW 7), ai cI (aW 8) 9 (vW 8), ai cI (aW 9) 9 (vW 9), ai cI (aW 10) 9 (vW 10), ai cI (aW 11) 6 (vW 11), ai cI (aW 12) 6 (vW 12), ai cI (aW 13) 6 (vW 13), oX2 aS vS] (some (.int res.1)) [oX5 aX aW aD aR aS aI aJ aY aC vX vT, oX3 aY aW aS res.2, ai cI (aY 3) 427 (res.2 3), ai cI (aY 4) 7 (res.2 4), ai cI (aY 5) 125 (res.2 5), oX4 aW vW, ai cI (aW 5) 7 (vW 5), ai cI (aW 6) 7 (vW 6), ai cI (aW 7) 7 (vW 7), ai cI (aW 8) 9 (vW 8), ai cI (aW 9) 9 (vW 9), ai cI (aW 10) 9 (vW 10), ai cI (aW 11) 6 (vW 11), ai cI (aW 12) 6 (vW 12), ai cI (aW 13) 6 (vW 13), oX2 aS vS] := by
  refine Ct.of_i (maxL := 3) (by decide) rfl (Nat.le_of_ble_eq_true rfl) ?_
  intro p e s m below meth c args hx hb hml hown hts A hA hEN hP hD hS Q hRet ls hl
  have hown : s.vm.findClass RX5 = some m.cls := hown
  have hl : lv_has ls 3 [(0, .ref (aX 0)), (1, .int x1), (2, .int x2)] := hl
  unfold m_X5_latest at h
  refine lv_iload_n hx hb dX5_latest_0 rfl (lv_at hl 1 rfl) ?_
  obtain ⟨o1, ho1, h⟩ := bnd_some h
  refine call_S0 (As := [.int x1]) (rest := []) ⟨hx, hb, hml, hown, hts⟩ (c_X5_isThing l G cI cZ  x1 o1 ho1) (va_cwS 1 hts gX5_latest_X5_isThing rfl rfl rfl hdS_X5_isThing ⟨Nat.le_of_ble_eq_true rfl, Nat.le_of_ble_eq_true rfl⟩) hEN hA hP hD hS [] rfl (by decide) rfl hl.1 rfl (Nat.le_of_ble_eq_true rfl) dX5_latest_1 ⟨Nat.le_of_ble_eq_true rfl, Nat.le_of_ble_eq_true rfl⟩ (fun H locs hP hS => ?_)
  refine lv_if_eq (tgt := 17) hx hb dX5_latest_4 (by decide) (fun c4 => ?_) (fun c4 => ?_)
  · have h := (if_pos c4).symm.trans h
    refine lv_iconst (v := (-1 : Int32)) hx hb dX5_latest_17 k_iconst_n1 ?_
    have hres := Option.some.inj h
    subst hres
    exact hRet 18 _ _ _ hP hD hS dX5_latest_18
  · have h := (if_neg c4).symm.trans h
    refine lv_iload_n hx hb dX5_latest_7 rfl (lv_at hl 2 rfl) ?_
    refine lv_iconst (v := (0 : Int32)) hx hb dX5_latest_8 k_iconst_0 ?_
    refine lv_bipush (v := (60 : Int32)) hx hb dX5_latest_9 k_bipush_60 ?_
    obtain ⟨o11, ho11, h⟩ := bnd_some h
    refine call_S0 (As := [.int x2, .int (0 : Int32), .int (60 : Int32)]) (rest := []) ⟨hx, hb, hml, hown, hts⟩ (c_X5_isWithin l G cI cZ  x2 (0 : Int32) (60 : Int32) o11 ho11) (va_cwS 3 hts gX5_latest_X5_isWithin rfl rfl rfl hdS_X5_isWithin ⟨Nat.le_of_ble_eq_true rfl, Nat.le_of_ble_eq_true rfl⟩) hEN hA hP hD hS [] rfl (by decide) rfl hl.1 rfl (Nat.le_of_ble_eq_true rfl) dX5_latest_11 ⟨Nat.le_of_ble_eq_true rfl, Nat.le_of_ble_eq_true rfl⟩ (fun H locs hP hS => ?_)
    refine lv_if_ne (tgt := 19) hx hb dX5_latest_14 (by decide) (fun c14 => ?_) (fun c14 => ?_)
    · have h := (if_neg c14).symm.trans h
      refine lv_aload_n hx hb dX5_latest_19 rfl (lv_at hl 0 rfl) ?_
      refine va_get (D := G) (ci := 5) (v := .ref (aY 0)) (C := RX5) (T := TX5) (N := 11) hx hb hts fi_X5_latest_X5 hown hEN.1 hP 0 rfl rfl 8 (by decide) (hts (.fieldLink RX5 54 "HourWell" "ways" "LHourWell$Ways;") (List.mem_of_getElem? (i := 1) rfl)) (fun _ h9 => h9) rfl dX5_latest_20 ?_
      refine lv_iload_n hx hb dX5_latest_23 rfl (lv_at hl 1 rfl) ?_
      refine lv_iload_n hx hb dX5_latest_24 rfl (lv_at hl 2 rfl) ?_
      obtain ⟨o25, ho25, h⟩ := bnd_some h
      refine call_VJ (wr := [oX5 aX aW aD aR aS aI aJ aY aC vX vT]) (As := [.int x1, .int x2]) (rest := []) ⟨hx, hb, hml, hown, hts⟩ (c_X3_mostWaiting l G cI cZ aY aW aS vY vW vS x1 x2 o25 ho25) (cwV 2 hts gX5_latest_X3_mostWaiting rfl rfl rfl hdV_X3_mostWaiting ⟨Nat.le_of_ble_eq_true rfl, Nat.le_of_ble_eq_true rfl⟩) hEN hA hP hD hS [1, 2, 3, 4, 5, 6, 7, 8, 9, 10, 11, 12, 13, 14, 15] [0] rfl (by decide) rfl (by decide) (by decide) 1 rfl rfl rfl hl.1 rfl (Nat.le_of_ble_eq_true rfl) dX5_latest_25 ⟨Nat.le_of_ble_eq_true rfl, Nat.le_of_ble_eq_true rfl⟩ (fun H locs hP hD hS => ?_)
      have hP : va_P G vwCl [oX5 aX aW aD aR aS aI aJ aY aC vX vT, oX3 aY aW aS o25.2, ai cI (aY 3) 427 (o25.2 3), ai cI (aY 4) 7 (o25.2 4), ai cI (aY 5) 125 (o25.2 5), oX4 aW vW, ai cI (aW 5) 7 (vW 5), ai cI (aW 6) 7 (vW 6), ai cI (aW 7) 7 (vW 7), ai cI (aW 8) 9 (vW 8), ai cI (aW 9) 9 (vW 9), ai cI (aW 10) 9 (vW 10), ai cI (aW 11) 6 (vW 11), ai cI (aW 12) 6 (vW 12), ai cI (aW 13) 6 (vW 13), oX2 aS vS] H := hP
      have hD : va_D A [oX5 aX aW aD aR aS aI aJ aY aC vX vT, oX3 aY aW aS o25.2, ai cI (aY 3) 427 (o25.2 3), ai cI (aY 4) 7 (o25.2 4), ai cI (aY 5) 125 (o25.2 5), oX4 aW vW, ai cI (aW 5) 7 (vW 5), ai cI (aW 6) 7 (vW 6), ai cI (aW 7) 7 (vW 7), ai cI (aW 8) 9 (vW 8), ai cI (aW 9) 9 (vW 9), ai cI (aW 10) 9 (vW 10), ai cI (aW 11) 6 (vW 11), ai cI (aW 12) 6 (vW 12), ai cI (aW 13) 6 (vW 13), oX2 aS vS] := hD
      have hres := Option.some.inj h
      subst hres
      exact hRet 28 _ _ _ hP hD hS dX5_latest_28
    · have h := (if_pos c14).symm.trans h
      refine lv_iconst (v := (-1 : Int32)) hx hb dX5_latest_17 k_iconst_n1 ?_
      have hres := Option.some.inj h
      subst hres
      exact hRet 18 _ _ _ hP hD hS dX5_latest_18
abbrev rm_X5_without : Room := { frames := 6, cells := 0, slots := 0, locals := 146 }
theorem fi_X5_without_X5 : ∀ w ∈ wsX50, w ∈ wsX5_without := fun _ h => List.mem_cons_of_mem _ (List.mem_append_left _ (List.mem_append_left _ (List.mem_append_left _ (List.mem_append_right _ h))))
theorem fi_X5_without_X3 : ∀ w ∈ wsX30, w ∈ wsX5_without := fun _ h => List.mem_cons_of_mem _ (List.mem_append_left _ (List.mem_append_left _ (List.mem_append_right _ h)))
theorem fi_X5_without_X2 : ∀ w ∈ wsX20, w ∈ wsX5_without := fun _ h => List.mem_cons_of_mem _ (List.mem_append_left _ (List.mem_append_right _ h))
theorem fi_X5_without_X4 : ∀ w ∈ wsX40, w ∈ wsX5_without := fun _ h => List.mem_cons_of_mem _ (List.mem_append_right _ h)
theorem hdV_X5_without : yX5_without.cls = RX5 ∧ yX5_without.cls ≠ "java/lang/invoke/MethodHandle" ∧ yX5_without.cls ≠ "java/lang/invoke/VarHandle" ∧ (parseMethodDescriptor yX5_without.desc).map (fun d => d.parameters.length) = some 2 := by decide +kernel
set_option maxRecDepth 100000 in
set_option maxHeartbeats 4000000 in
theorem c_X5_without (l : Launch) (G : va_G) (cI cZ : ClassId) (aX : Nat → Nat) (aR : Nat → Nat) (aY : Nat → Nat) (aC : Nat → Nat) (aW : Nat → Nat) (aD : Nat → Nat) (aS : Nat → Nat) (aI : Nat → Nat) (aJ : Nat → Nat) (vT : Int64) (vX : Ob) (vY : Ob) (vW : Ob) (vS : Ob) (x1 : Int32) (x2 : Int32) (res : Int32 × Ob) (h : m_X5_without vX vY vW vS x1 x2 = some res) : Ct l yX5_without wsX5_without rm_X5_without G cI cZ [.ref (aX 0), .int x1, .int x2] [oX5 aX aW aD aR aS aI aJ aY aC vX vT, oX3 aY aW aS vY, ai cI (aY 3) 427 (vY 3), ai cI (aY 4) 7 (vY 4), ai cI (aY 5) 125 (vY 5), oX4 aW vW, ai cI (aW 5) 7 (vW 5), ai cI (aW 6) 7 (vW 6), ai cI (aW 7) 7 (vW 7), ai cI (aW 8) 9 (vW 8), ai cI (aW 9) 9 (vW 9), ai cI (aW 10) 9 (vW 10), ai cI (aW 11) 6 (vW 11), ai cI (aW 12) 6 (vW 12), ai cI (aW 13) 6 (vW 13), oX2 aS vS] (some (.int res.1)) [oX5 aX aW aD aR aS aI aJ aY aC vX vT, oX3 aY aW aS res.2, ai cI (aY 3) 427 (res.2 3), ai cI (aY 4) 7 (res.2 4), ai cI (aY 5) 125 (res.2 5), oX4 aW vW, ai cI (aW 5) 7 (vW 5), ai cI (aW 6) 7 (vW 6), ai cI (aW 7) 7 (vW 7), ai cI (aW 8) 9 (vW 8), ai cI (aW 9) 9 (vW 9), ai cI (aW 10) 9 (vW 10), ai cI (aW 11) 6 (vW 11), ai cI (aW 12) 6 (vW 12), ai cI (aW 13) 6 (vW 13), oX2 aS vS] := by
  refine Ct.of_i (maxL := 3) (by decide) rfl (Nat.le_of_ble_eq_true rfl) ?_
  intro p e s m below meth c args hx hb hml hown hts A hA hEN hP hD hS Q hRet ls hl
  have hown : s.vm.findClass RX5 = some m.cls := hown
  have hl : lv_has ls 3 [(0, .ref (aX 0)), (1, .int x1), (2, .int x2)] := hl
  unfold m_X5_without at h
  refine lv_iload_n hx hb dX5_without_0 rfl (lv_at hl 1 rfl) ?_
  obtain ⟨o1, ho1, h⟩ := bnd_some h
  refine call_S0 (As := [.int x1]) (rest := []) ⟨hx, hb, hml, hown, hts⟩ (c_X5_isThing l G cI cZ  x1 o1 ho1) (va_cwS 1 hts gX5_without_X5_isThing rfl rfl rfl hdS_X5_isThing ⟨Nat.le_of_ble_eq_true rfl, Nat.le_of_ble_eq_true rfl⟩) hEN hA hP hD hS [] rfl (by decide) rfl hl.1 rfl (Nat.le_of_ble_eq_true rfl) dX5_without_1 ⟨Nat.le_of_ble_eq_true rfl, Nat.le_of_ble_eq_true rfl⟩ (fun H locs hP hS => ?_)
  refine lv_if_eq (tgt := 16) hx hb dX5_without_4 (by decide) (fun c4 => ?_) (fun c4 => ?_)
  · have h := (if_pos c4).symm.trans h
    refine lv_iconst (v := (-1 : Int32)) hx hb dX5_without_16 k_iconst_n1 ?_
    have hres := Option.some.inj h
    subst hres
    exact hRet 17 _ _ _ hP hD hS dX5_without_17
  · have h := (if_neg c4).symm.trans h
    refine lv_iload_n hx hb dX5_without_7 rfl (lv_at hl 2 rfl) ?_
    refine lv_iconst (v := (0 : Int32)) hx hb dX5_without_8 k_iconst_0 ?_
    refine lv_iconst (v := (1 : Int32)) hx hb dX5_without_9 k_iconst_1 ?_
    obtain ⟨o10, ho10, h⟩ := bnd_some h
    refine call_S0 (As := [.int x2, .int (0 : Int32), .int (1 : Int32)]) (rest := []) ⟨hx, hb, hml, hown, hts⟩ (c_X5_isWithin l G cI cZ  x2 (0 : Int32) (1 : Int32) o10 ho10) (va_cwS 3 hts gX5_without_X5_isWithin rfl rfl rfl hdS_X5_isWithin ⟨Nat.le_of_ble_eq_true rfl, Nat.le_of_ble_eq_true rfl⟩) hEN hA hP hD hS [] rfl (by decide) rfl hl.1 rfl (Nat.le_of_ble_eq_true rfl) dX5_without_10 ⟨Nat.le_of_ble_eq_true rfl, Nat.le_of_ble_eq_true rfl⟩ (fun H locs hP hS => ?_)
    refine lv_if_ne (tgt := 18) hx hb dX5_without_13 (by decide) (fun c13 => ?_) (fun c13 => ?_)
    · have h := (if_neg c13).symm.trans h
      refine lv_aload_n hx hb dX5_without_18 rfl (lv_at hl 0 rfl) ?_
      refine va_get (D := G) (ci := 5) (v := .ref (aY 0)) (C := RX5) (T := TX5) (N := 11) hx hb hts fi_X5_without_X5 hown hEN.1 hP 0 rfl rfl 8 (by decide) (hts (.fieldLink RX5 54 "HourWell" "ways" "LHourWell$Ways;") (List.mem_of_getElem? (i := 1) rfl)) (fun _ h9 => h9) rfl dX5_without_19 ?_
      refine lv_iload_n hx hb dX5_without_22 rfl (lv_at hl 1 rfl) ?_
      obtain ⟨o23, ho23, h⟩ := bnd_some h
      refine call_VJ (wr := [oX5 aX aW aD aR aS aI aJ aY aC vX vT]) (As := [.int x1]) (rest := []) ⟨hx, hb, hml, hown, hts⟩ (c_X3_findWay l G cI cZ aY aW aS vY vW vS x1 o23 ho23) (cwV 1 hts gX5_without_X3_findWay rfl rfl rfl hdV_X3_findWay ⟨Nat.le_of_ble_eq_true rfl, Nat.le_of_ble_eq_true rfl⟩) hEN hA hP hD hS [1, 2, 3, 4, 5, 6, 7, 8, 9, 10, 11, 12, 13, 14, 15] [0] rfl (by decide) rfl (by decide) (by decide) 1 rfl rfl rfl hl.1 rfl (Nat.le_of_ble_eq_true rfl) dX5_without_23 ⟨Nat.le_of_ble_eq_true rfl, Nat.le_of_ble_eq_true rfl⟩ (fun H locs hP hD hS => ?_)
      have hP : va_P G vwCl [oX5 aX aW aD aR aS aI aJ aY aC vX vT, oX3 aY aW aS o23, ai cI (aY 3) 427 (o23 3), ai cI (aY 4) 7 (o23 4), ai cI (aY 5) 125 (o23 5), oX4 aW vW, ai cI (aW 5) 7 (vW 5), ai cI (aW 6) 7 (vW 6), ai cI (aW 7) 7 (vW 7), ai cI (aW 8) 9 (vW 8), ai cI (aW 9) 9 (vW 9), ai cI (aW 10) 9 (vW 10), ai cI (aW 11) 6 (vW 11), ai cI (aW 12) 6 (vW 12), ai cI (aW 13) 6 (vW 13), oX2 aS vS] H := hP
      have hD : va_D A [oX5 aX aW aD aR aS aI aJ aY aC vX vT, oX3 aY aW aS o23, ai cI (aY 3) 427 (o23 3), ai cI (aY 4) 7 (o23 4), ai cI (aY 5) 125 (o23 5), oX4 aW vW, ai cI (aW 5) 7 (vW 5), ai cI (aW 6) 7 (vW 6), ai cI (aW 7) 7 (vW 7), ai cI (aW 8) 9 (vW 8), ai cI (aW 9) 9 (vW 9), ai cI (aW 10) 9 (vW 10), ai cI (aW 11) 6 (vW 11), ai cI (aW 12) 6 (vW 12), ai cI (aW 13) 6 (vW 13), oX2 aS vS] := hD
      refine lv_iload_n hx hb dX5_without_26 rfl (lv_at hl 2 rfl) ?_
      refine lv_if_ne (tgt := 40) hx hb dX5_without_27 (by decide) (fun c27 => ?_) (fun c27 => ?_)
      · have h := (if_neg c27).symm.trans h
        refine lv_aload_n hx hb dX5_without_40 rfl (lv_at hl 0 rfl) ?_
        refine va_get (D := G) (ci := 5) (v := .ref (aY 0)) (C := RX5) (T := TX5) (N := 11) hx hb hts fi_X5_without_X5 hown hEN.1 hP 0 rfl rfl 8 (by decide) (hts (.fieldLink RX5 54 "HourWell" "ways" "LHourWell$Ways;") (List.mem_of_getElem? (i := 1) rfl)) (fun _ h9 => h9) rfl dX5_without_41 ?_
        obtain ⟨o44, ho44, h⟩ := bnd_some h
        refine call_VJ (wr := [oX5 aX aW aD aR aS aI aJ aY aC vX vT]) (As := []) (rest := []) ⟨hx, hb, hml, hown, hts⟩ (c_X3_neededHosts l G cI cZ aY aW aS o23 vW vS o44 ho44) (cwV 0 hts gX5_without_X3_neededHosts rfl rfl rfl hdV_X3_neededHosts ⟨Nat.le_of_ble_eq_true rfl, Nat.le_of_ble_eq_true rfl⟩) hEN hA hP hD hS [1, 2, 3, 4, 5, 6, 7, 8, 9, 10, 11, 12, 13, 14, 15] [0] rfl (by decide) rfl (by decide) (by decide) 1 rfl rfl rfl hl.1 rfl (Nat.le_of_ble_eq_true rfl) dX5_without_44 ⟨Nat.le_of_ble_eq_true rfl, Nat.le_of_ble_eq_true rfl⟩ (fun H locs hP hD hS => ?_)
        have hP : va_P G vwCl [oX5 aX aW aD aR aS aI aJ aY aC vX vT, oX3 aY aW aS o44.2, ai cI (aY 3) 427 (o44.2 3), ai cI (aY 4) 7 (o44.2 4), ai cI (aY 5) 125 (o44.2 5), oX4 aW vW, ai cI (aW 5) 7 (vW 5), ai cI (aW 6) 7 (vW 6), ai cI (aW 7) 7 (vW 7), ai cI (aW 8) 9 (vW 8), ai cI (aW 9) 9 (vW 9), ai cI (aW 10) 9 (vW 10), ai cI (aW 11) 6 (vW 11), ai cI (aW 12) 6 (vW 12), ai cI (aW 13) 6 (vW 13), oX2 aS vS] H := hP
        have hD : va_D A [oX5 aX aW aD aR aS aI aJ aY aC vX vT, oX3 aY aW aS o44.2, ai cI (aY 3) 427 (o44.2 3), ai cI (aY 4) 7 (o44.2 4), ai cI (aY 5) 125 (o44.2 5), oX4 aW vW, ai cI (aW 5) 7 (vW 5), ai cI (aW 6) 7 (vW 6), ai cI (aW 7) 7 (vW 7), ai cI (aW 8) 9 (vW 8), ai cI (aW 9) 9 (vW 9), ai cI (aW 10) 9 (vW 10), ai cI (aW 11) 6 (vW 11), ai cI (aW 12) 6 (vW 12), ai cI (aW 13) 6 (vW 13), oX2 aS vS] := hD
        have hres := Option.some.inj h
        subst hres
        exact hRet 47 _ _ _ hP hD hS dX5_without_47
      · have h := (if_pos c27).symm.trans h
        refine lv_aload_n hx hb dX5_without_30 rfl (lv_at hl 0 rfl) ?_
        refine va_get (D := G) (ci := 5) (v := .ref (aY 0)) (C := RX5) (T := TX5) (N := 11) hx hb hts fi_X5_without_X5 hown hEN.1 hP 0 rfl rfl 8 (by decide) (hts (.fieldLink RX5 54 "HourWell" "ways" "LHourWell$Ways;") (List.mem_of_getElem? (i := 1) rfl)) (fun _ h9 => h9) rfl dX5_without_31 ?_
        obtain ⟨o34, ho34, h⟩ := bnd_some h
        refine call_VJ (wr := [oX5 aX aW aD aR aS aI aJ aY aC vX vT]) (As := []) (rest := []) ⟨hx, hb, hml, hown, hts⟩ (c_X3_neededRoads l G cI cZ aY aW aS o23 vW vS o34 ho34) (cwV 0 hts gX5_without_X3_neededRoads rfl rfl rfl hdV_X3_neededRoads ⟨Nat.le_of_ble_eq_true rfl, Nat.le_of_ble_eq_true rfl⟩) hEN hA hP hD hS [1, 2, 3, 4, 5, 6, 7, 8, 9, 10, 11, 12, 13, 14, 15] [0] rfl (by decide) rfl (by decide) (by decide) 1 rfl rfl rfl hl.1 rfl (Nat.le_of_ble_eq_true rfl) dX5_without_34 ⟨Nat.le_of_ble_eq_true rfl, Nat.le_of_ble_eq_true rfl⟩ (fun H locs hP hD hS => ?_)
        have hP : va_P G vwCl [oX5 aX aW aD aR aS aI aJ aY aC vX vT, oX3 aY aW aS o34.2, ai cI (aY 3) 427 (o34.2 3), ai cI (aY 4) 7 (o34.2 4), ai cI (aY 5) 125 (o34.2 5), oX4 aW vW, ai cI (aW 5) 7 (vW 5), ai cI (aW 6) 7 (vW 6), ai cI (aW 7) 7 (vW 7), ai cI (aW 8) 9 (vW 8), ai cI (aW 9) 9 (vW 9), ai cI (aW 10) 9 (vW 10), ai cI (aW 11) 6 (vW 11), ai cI (aW 12) 6 (vW 12), ai cI (aW 13) 6 (vW 13), oX2 aS vS] H := hP
        have hD : va_D A [oX5 aX aW aD aR aS aI aJ aY aC vX vT, oX3 aY aW aS o34.2, ai cI (aY 3) 427 (o34.2 3), ai cI (aY 4) 7 (o34.2 4), ai cI (aY 5) 125 (o34.2 5), oX4 aW vW, ai cI (aW 5) 7 (vW 5), ai cI (aW 6) 7 (vW 6), ai cI (aW 7) 7 (vW 7), ai cI (aW 8) 9 (vW 8), ai cI (aW 9) 9 (vW 9), ai cI (aW 10) 9 (vW 10), ai cI (aW 11) 6 (vW 11), ai cI (aW 12) 6 (vW 12), ai cI (aW 13) 6 (vW 13), oX2 aS vS] := hD
        refine lv_goto (tgt := 47) hx hb dX5_without_37 (by decide) ?_
        have hres := Option.some.inj h
        subst hres
        exact hRet 47 _ _ _ hP hD hS dX5_without_47
    · have h := (if_pos c13).symm.trans h
      refine lv_iconst (v := (-1 : Int32)) hx hb dX5_without_16 k_iconst_n1 ?_
      have hres := Option.some.inj h
      subst hres
      exact hRet 17 _ _ _ hP hD hS dX5_without_17
abbrev rm_X5_robbed : Room := { frames := 6, cells := 0, slots := 0, locals := 145 }
theorem fi_X5_robbed_X5 : ∀ w ∈ wsX50, w ∈ wsX5_robbed := fun _ h => List.mem_cons_of_mem _ (List.mem_append_left _ (List.mem_append_left _ (List.mem_append_left _ (List.mem_append_right _ h))))
theorem fi_X5_robbed_X4 : ∀ w ∈ wsX40, w ∈ wsX5_robbed := fun _ h => List.mem_cons_of_mem _ (List.mem_append_left _ (List.mem_append_left _ (List.mem_append_right _ h)))
theorem fi_X5_robbed_X3 : ∀ w ∈ wsX30, w ∈ wsX5_robbed := fun _ h => List.mem_cons_of_mem _ (List.mem_append_left _ (List.mem_append_right _ h))
theorem fi_X5_robbed_X2 : ∀ w ∈ wsX20, w ∈ wsX5_robbed := fun _ h => List.mem_cons_of_mem _ (List.mem_append_right _ h)
theorem hdV_X5_robbed : yX5_robbed.cls = RX5 ∧ yX5_robbed.cls ≠ "java/lang/invoke/MethodHandle" ∧ yX5_robbed.cls ≠ "java/lang/invoke/VarHandle" ∧ (parseMethodDescriptor yX5_robbed.desc).map (fun d => d.parameters.length) = some 2 := by decide +kernel
set_option maxRecDepth 100000 in
set_option maxHeartbeats 4000000 in
theorem c_X5_robbed (l : Launch) (G : va_G) (cI cZ : ClassId) (aX : Nat → Nat) (aR : Nat → Nat) (aY : Nat → Nat) (aC : Nat → Nat) (aW : Nat → Nat) (aD : Nat → Nat) (aS : Nat → Nat) (aI : Nat → Nat) (aJ : Nat → Nat) (vT : Int64) (vX : Ob) (vY : Ob) (vW : Ob) (vS : Ob) (x1 : Int32) (x2 : Int32) (res : Int32 × Ob) (h : m_X5_robbed vX vY vW vS x1 x2 = some res) : Ct l yX5_robbed wsX5_robbed rm_X5_robbed G cI cZ [.ref (aX 0), .int x1, .int x2] [oX5 aX aW aD aR aS aI aJ aY aC vX vT, oX3 aY aW aS vY, ai cI (aY 3) 427 (vY 3), ai cI (aY 4) 7 (vY 4), ai cI (aY 5) 125 (vY 5), oX4 aW vW, ai cI (aW 5) 7 (vW 5), ai cI (aW 6) 7 (vW 6), ai cI (aW 7) 7 (vW 7), ai cI (aW 8) 9 (vW 8), ai cI (aW 9) 9 (vW 9), ai cI (aW 10) 9 (vW 10), ai cI (aW 11) 6 (vW 11), ai cI (aW 12) 6 (vW 12), ai cI (aW 13) 6 (vW 13), oX2 aS vS] (some (.int res.1)) [oX5 aX aW aD aR aS aI aJ aY aC vX vT, oX3 aY aW aS res.2, ai cI (aY 3) 427 (res.2 3), ai cI (aY 4) 7 (res.2 4), ai cI (aY 5) 125 (res.2 5), oX4 aW vW, ai cI (aW 5) 7 (vW 5), ai cI (aW 6) 7 (vW 6), ai cI (aW 7) 7 (vW 7), ai cI (aW 8) 9 (vW 8), ai cI (aW 9) 9 (vW 9), ai cI (aW 10) 9 (vW 10), ai cI (aW 11) 6 (vW 11), ai cI (aW 12) 6 (vW 12), ai cI (aW 13) 6 (vW 13), oX2 aS vS] := by
  refine Ct.of_i (maxL := 3) (by decide) rfl (Nat.le_of_ble_eq_true rfl) ?_
  intro p e s m below meth c args hx hb hml hown hts A hA hEN hP hD hS Q hRet ls hl
  have hown : s.vm.findClass RX5 = some m.cls := hown
  have hl : lv_has ls 3 [(0, .ref (aX 0)), (1, .int x1), (2, .int x2)] := hl
  unfold m_X5_robbed at h
  refine lv_iload_n hx hb dX5_robbed_0 rfl (lv_at hl 1 rfl) ?_
  obtain ⟨o1, ho1, h⟩ := bnd_some h
  refine call_S0 (As := [.int x1]) (rest := []) ⟨hx, hb, hml, hown, hts⟩ (c_X5_isThing l G cI cZ  x1 o1 ho1) (va_cwS 1 hts gX5_robbed_X5_isThing rfl rfl rfl hdS_X5_isThing ⟨Nat.le_of_ble_eq_true rfl, Nat.le_of_ble_eq_true rfl⟩) hEN hA hP hD hS [] rfl (by decide) rfl hl.1 rfl (Nat.le_of_ble_eq_true rfl) dX5_robbed_1 ⟨Nat.le_of_ble_eq_true rfl, Nat.le_of_ble_eq_true rfl⟩ (fun H locs hP hS => ?_)
  refine lv_if_eq (tgt := 18) hx hb dX5_robbed_4 (by decide) (fun c4 => ?_) (fun c4 => ?_)
  · have h := (if_pos c4).symm.trans h
    refine lv_iconst (v := (-1 : Int32)) hx hb dX5_robbed_18 k_iconst_n1 ?_
    have hres := Option.some.inj h
    subst hres
    exact hRet 19 _ _ _ hP hD hS dX5_robbed_19
  · have h := (if_neg c4).symm.trans h
    refine lv_aload_n hx hb dX5_robbed_7 rfl (lv_at hl 0 rfl) ?_
    refine va_get (D := G) (ci := 5) (v := .ref (aW 0)) (C := RX5) (T := TX5) (N := 11) hx hb hts fi_X5_robbed_X5 hown hEN.1 hP 0 rfl rfl 2 (by decide) (hts (.fieldLink RX5 20 "HourWell" "world" "LHourWell$World;") (List.mem_of_getElem? (i := 1) rfl)) (fun _ h9 => h9) rfl dX5_robbed_8 ?_
    refine lv_iload_n hx hb dX5_robbed_11 rfl (lv_at hl 2 rfl) ?_
    obtain ⟨o12, ho12, h⟩ := bnd_some h
    refine call_V0 (As := [.int x2]) (rest := []) ⟨hx, hb, hml, hown, hts⟩ (c_X4_hasPlace l G cI cZ aW vW x2 o12 ho12) (cwV 1 hts gX5_robbed_X4_hasPlace rfl rfl rfl hdV_X4_hasPlace ⟨Nat.le_of_ble_eq_true rfl, Nat.le_of_ble_eq_true rfl⟩) hEN hA hP hD hS [5] rfl (by decide) 5 rfl rfl rfl hl.1 rfl (Nat.le_of_ble_eq_true rfl) dX5_robbed_12 ⟨Nat.le_of_ble_eq_true rfl, Nat.le_of_ble_eq_true rfl⟩ (fun H locs hP hS => ?_)
    refine lv_if_ne (tgt := 20) hx hb dX5_robbed_15 (by decide) (fun c15 => ?_) (fun c15 => ?_)
    · have h := (if_neg c15).symm.trans h
      refine lv_aload_n hx hb dX5_robbed_20 rfl (lv_at hl 0 rfl) ?_
      refine va_get (D := G) (ci := 5) (v := .ref (aY 0)) (C := RX5) (T := TX5) (N := 11) hx hb hts fi_X5_robbed_X5 hown hEN.1 hP 0 rfl rfl 8 (by decide) (hts (.fieldLink RX5 54 "HourWell" "ways" "LHourWell$Ways;") (List.mem_of_getElem? (i := 2) rfl)) (fun _ h9 => h9) rfl dX5_robbed_21 ?_
      refine lv_iload_n hx hb dX5_robbed_24 rfl (lv_at hl 1 rfl) ?_
      obtain ⟨o25, ho25, h⟩ := bnd_some h
      refine call_VJ (wr := [oX5 aX aW aD aR aS aI aJ aY aC vX vT]) (As := [.int x1]) (rest := []) ⟨hx, hb, hml, hown, hts⟩ (c_X3_findWay l G cI cZ aY aW aS vY vW vS x1 o25 ho25) (cwV 1 hts gX5_robbed_X3_findWay rfl rfl rfl hdV_X3_findWay ⟨Nat.le_of_ble_eq_true rfl, Nat.le_of_ble_eq_true rfl⟩) hEN hA hP hD hS [1, 2, 3, 4, 5, 6, 7, 8, 9, 10, 11, 12, 13, 14, 15] [0] rfl (by decide) rfl (by decide) (by decide) 1 rfl rfl rfl hl.1 rfl (Nat.le_of_ble_eq_true rfl) dX5_robbed_25 ⟨Nat.le_of_ble_eq_true rfl, Nat.le_of_ble_eq_true rfl⟩ (fun H locs hP hD hS => ?_)
      have hP : va_P G vwCl [oX5 aX aW aD aR aS aI aJ aY aC vX vT, oX3 aY aW aS o25, ai cI (aY 3) 427 (o25 3), ai cI (aY 4) 7 (o25 4), ai cI (aY 5) 125 (o25 5), oX4 aW vW, ai cI (aW 5) 7 (vW 5), ai cI (aW 6) 7 (vW 6), ai cI (aW 7) 7 (vW 7), ai cI (aW 8) 9 (vW 8), ai cI (aW 9) 9 (vW 9), ai cI (aW 10) 9 (vW 10), ai cI (aW 11) 6 (vW 11), ai cI (aW 12) 6 (vW 12), ai cI (aW 13) 6 (vW 13), oX2 aS vS] H := hP
      have hD : va_D A [oX5 aX aW aD aR aS aI aJ aY aC vX vT, oX3 aY aW aS o25, ai cI (aY 3) 427 (o25 3), ai cI (aY 4) 7 (o25 4), ai cI (aY 5) 125 (o25 5), oX4 aW vW, ai cI (aW 5) 7 (vW 5), ai cI (aW 6) 7 (vW 6), ai cI (aW 7) 7 (vW 7), ai cI (aW 8) 9 (vW 8), ai cI (aW 9) 9 (vW 9), ai cI (aW 10) 9 (vW 10), ai cI (aW 11) 6 (vW 11), ai cI (aW 12) 6 (vW 12), ai cI (aW 13) 6 (vW 13), oX2 aS vS] := hD
      refine lv_aload_n hx hb dX5_robbed_28 rfl (lv_at hl 0 rfl) ?_
      refine va_get (D := G) (ci := 5) (v := .ref (aY 0)) (C := RX5) (T := TX5) (N := 11) hx hb hts fi_X5_robbed_X5 hown hEN.1 hP 0 rfl rfl 8 (by decide) (hts (.fieldLink RX5 54 "HourWell" "ways" "LHourWell$Ways;") (List.mem_of_getElem? (i := 2) rfl)) (fun _ h9 => h9) rfl dX5_robbed_29 ?_
      refine lv_iload_n hx hb dX5_robbed_32 rfl (lv_at hl 2 rfl) ?_
      obtain ⟨o33, ho33, h⟩ := bnd_some h
      refine call_VJ (wr := [oX5 aX aW aD aR aS aI aJ aY aC vX vT, ai cI (aW 6) 7 (vW 6), ai cI (aW 7) 7 (vW 7), ai cI (aW 11) 6 (vW 11), ai cI (aW 13) 6 (vW 13), oX2 aS vS]) (As := [.int x2]) (rest := []) ⟨hx, hb, hml, hown, hts⟩ (c_X3_placeOfRobbery l G cI cZ aY aW aS o25 vW x2 o33 ho33) (cwV 1 hts gX5_robbed_X3_placeOfRobbery rfl rfl rfl hdV_X3_placeOfRobbery ⟨Nat.le_of_ble_eq_true rfl, Nat.le_of_ble_eq_true rfl⟩) hEN hA hP hD hS [1, 2, 3, 4, 5, 6, 9, 10, 11, 13] [0, 7, 8, 12, 14, 15] rfl (by decide) rfl (by decide) (by decide) 1 rfl rfl rfl hl.1 rfl (Nat.le_of_ble_eq_true rfl) dX5_robbed_33 ⟨Nat.le_of_ble_eq_true rfl, Nat.le_of_ble_eq_true rfl⟩ (fun H locs hP hD hS => ?_)
      have hP : va_P G vwCl [oX5 aX aW aD aR aS aI aJ aY aC vX vT, ai cI (aW 6) 7 (vW 6), ai cI (aW 7) 7 (vW 7), ai cI (aW 11) 6 (vW 11), ai cI (aW 13) 6 (vW 13), oX2 aS vS, oX3 aY aW aS o33.2, ai cI (aY 3) 427 (o33.2 3), ai cI (aY 4) 7 (o33.2 4), ai cI (aY 5) 125 (o33.2 5), oX4 aW vW, ai cI (aW 5) 7 (vW 5), ai cI (aW 8) 9 (vW 8), ai cI (aW 9) 9 (vW 9), ai cI (aW 10) 9 (vW 10), ai cI (aW 12) 6 (vW 12)] H := hP
      have hD : va_D A [oX5 aX aW aD aR aS aI aJ aY aC vX vT, ai cI (aW 6) 7 (vW 6), ai cI (aW 7) 7 (vW 7), ai cI (aW 11) 6 (vW 11), ai cI (aW 13) 6 (vW 13), oX2 aS vS, oX3 aY aW aS o33.2, ai cI (aY 3) 427 (o33.2 3), ai cI (aY 4) 7 (o33.2 4), ai cI (aY 5) 125 (o33.2 5), oX4 aW vW, ai cI (aW 5) 7 (vW 5), ai cI (aW 8) 9 (vW 8), ai cI (aW 9) 9 (vW 9), ai cI (aW 10) 9 (vW 10), ai cI (aW 12) 6 (vW 12)] := hD
      have hres := Option.some.inj h
      subst hres
      exact hRet 36 _ _ _ (hP.sub [0, 6, 7, 8, 9, 10, 11, 1, 2, 12, 13, 14, 3, 15, 4, 5] rfl) (hD.sub [0, 6, 7, 8, 9, 10, 11, 1, 2, 12, 13, 14, 3, 15, 4, 5] (by decide) rfl) hS dX5_robbed_36
    · have h := (if_pos c15).symm.trans h
      refine lv_iconst (v := (-1 : Int32)) hx hb dX5_robbed_18 k_iconst_n1 ?_
      have hres := Option.some.inj h
      subst hres
      exact hRet 19 _ _ _ hP hD hS dX5_robbed_19
abbrev rm_X5_sure : Room := { frames := 3, cells := 0, slots := 0, locals := 68 }
theorem fi_X5_sure_X5 : ∀ w ∈ wsX50, w ∈ wsX5_sure := fun _ h => List.mem_cons_of_mem _ (List.mem_append_left _ (List.mem_append_right _ h))
theorem fi_X5_sure_X4 : ∀ w ∈ wsX40, w ∈ wsX5_sure := fun _ h => List.mem_cons_of_mem _ (List.mem_append_right _ h)
theorem hdV_X5_sure : yX5_sure.cls = RX5 ∧ yX5_sure.cls ≠ "java/lang/invoke/MethodHandle" ∧ yX5_sure.cls ≠ "java/lang/invoke/VarHandle" ∧ (parseMethodDescriptor yX5_sure.desc).map (fun d => d.parameters.length) = some 2 := by decide +kernel
set_option maxRecDepth 100000 in
set_option maxHeartbeats 4000000 in
theorem c_X5_sure (l : Launch) (G : va_G) (cI cZ : ClassId) (aX : Nat → Nat) (aR : Nat → Nat) (aY : Nat → Nat) (aC : Nat → Nat) (aW : Nat → Nat) (aD : Nat → Nat) (aS : Nat → Nat) (aI : Nat → Nat) (aJ : Nat → Nat) (vT : Int64) (vX : Ob) (vW : Ob) (x1 : Int32) (x2 : Int32) (res : Int32) (h : m_X5_sure vX vW x1 x2 = some res) : Ct l yX5_sure wsX5_sure rm_X5_sure G cI cZ [.ref (aX 0), .int x1, .int x2] [oX5 aX aW aD aR aS aI aJ aY aC vX vT, oX4 aW vW, ai cI (aW 6) 7 (vW 6), ai cI (aW 7) 7 (vW 7)] (some (.int res)) [oX5 aX aW aD aR aS aI aJ aY aC vX vT, oX4 aW vW, ai cI (aW 6) 7 (vW 6), ai cI (aW 7) 7 (vW 7)] := by
  refine Ct.of_i (maxL := 3) (by decide) rfl (Nat.le_of_ble_eq_true rfl) ?_
  intro p e s m below meth c args hx hb hml hown hts A hA hEN hP hD hS Q hRet ls hl
  have hown : s.vm.findClass RX5 = some m.cls := hown
  have hl : lv_has ls 3 [(0, .ref (aX 0)), (1, .int x1), (2, .int x2)] := hl
  unfold m_X5_sure at h
  refine lv_aload_n hx hb dX5_sure_0 rfl (lv_at hl 0 rfl) ?_
  refine va_get (D := G) (ci := 5) (v := .ref (aW 0)) (C := RX5) (T := TX5) (N := 11) hx hb hts fi_X5_sure_X5 hown hEN.1 hP 0 rfl rfl 2 (by decide) (hts (.fieldLink RX5 20 "HourWell" "world" "LHourWell$World;") (List.mem_of_getElem? (i := 1) rfl)) (fun _ h9 => h9) rfl dX5_sure_1 ?_
  refine lv_iload_n hx hb dX5_sure_4 rfl (lv_at hl 1 rfl) ?_
  obtain ⟨o5, ho5, h⟩ := bnd_some h
  refine call_V0 (As := [.int x1]) (rest := []) ⟨hx, hb, hml, hown, hts⟩ (c_X4_hasPlace l G cI cZ aW vW x1 o5 ho5) (cwV 1 hts gX5_sure_X4_hasPlace rfl rfl rfl hdV_X4_hasPlace ⟨Nat.le_of_ble_eq_true rfl, Nat.le_of_ble_eq_true rfl⟩) hEN hA hP hD hS [1] rfl (by decide) 1 rfl rfl rfl hl.1 rfl (Nat.le_of_ble_eq_true rfl) dX5_sure_5 ⟨Nat.le_of_ble_eq_true rfl, Nat.le_of_ble_eq_true rfl⟩ (fun H locs hP hS => ?_)
  refine lv_if_eq (tgt := 21) hx hb dX5_sure_8 (by decide) (fun c8 => ?_) (fun c8 => ?_)
  · have h := (if_pos c8).symm.trans h
    refine lv_iconst (v := (-1 : Int32)) hx hb dX5_sure_21 k_iconst_n1 ?_
    have hres := Option.some.inj h
    subst hres
    exact hRet 22 _ _ _ hP hD hS dX5_sure_22
  · have h := (if_neg c8).symm.trans h
    refine lv_iload_n hx hb dX5_sure_11 rfl (lv_at hl 2 rfl) ?_
    refine lv_iconst (v := (0 : Int32)) hx hb dX5_sure_12 k_iconst_0 ?_
    refine lv_bipush (v := (23 : Int32)) hx hb dX5_sure_13 k_bipush_23 ?_
    obtain ⟨o15, ho15, h⟩ := bnd_some h
    refine call_S0 (As := [.int x2, .int (0 : Int32), .int (23 : Int32)]) (rest := []) ⟨hx, hb, hml, hown, hts⟩ (c_X5_isWithin l G cI cZ  x2 (0 : Int32) (23 : Int32) o15 ho15) (va_cwS 3 hts gX5_sure_X5_isWithin rfl rfl rfl hdS_X5_isWithin ⟨Nat.le_of_ble_eq_true rfl, Nat.le_of_ble_eq_true rfl⟩) hEN hA hP hD hS [] rfl (by decide) rfl hl.1 rfl (Nat.le_of_ble_eq_true rfl) dX5_sure_15 ⟨Nat.le_of_ble_eq_true rfl, Nat.le_of_ble_eq_true rfl⟩ (fun H locs hP hS => ?_)
    refine lv_if_ne (tgt := 23) hx hb dX5_sure_18 (by decide) (fun c18 => ?_) (fun c18 => ?_)
    · have h := (if_neg c18).symm.trans h
      refine lv_aload_n hx hb dX5_sure_23 rfl (lv_at hl 0 rfl) ?_
      refine va_get (D := G) (ci := 5) (v := .ref (aW 0)) (C := RX5) (T := TX5) (N := 11) hx hb hts fi_X5_sure_X5 hown hEN.1 hP 0 rfl rfl 2 (by decide) (hts (.fieldLink RX5 20 "HourWell" "world" "LHourWell$World;") (List.mem_of_getElem? (i := 1) rfl)) (fun _ h9 => h9) rfl dX5_sure_24 ?_
      refine lv_iload_n hx hb dX5_sure_27 rfl (lv_at hl 1 rfl) ?_
      refine lv_iload_n hx hb dX5_sure_28 rfl (lv_at hl 2 rfl) ?_
      obtain ⟨o29, ho29, h⟩ := bnd_some h
      refine call_V0 (As := [.int x1, .int x2]) (rest := []) ⟨hx, hb, hml, hown, hts⟩ (c_X4_openAround l G cI cZ aW vW x1 x2 o29 ho29) (cwV 2 hts gX5_sure_X4_openAround rfl rfl rfl hdV_X4_openAround ⟨Nat.le_of_ble_eq_true rfl, Nat.le_of_ble_eq_true rfl⟩) hEN hA hP hD hS [1, 2, 3] rfl (by decide) 1 rfl rfl rfl hl.1 rfl (Nat.le_of_ble_eq_true rfl) dX5_sure_29 ⟨Nat.le_of_ble_eq_true rfl, Nat.le_of_ble_eq_true rfl⟩ (fun H locs hP hS => ?_)
      refine lv_aload_n hx hb dX5_sure_32 rfl (lv_at hl 0 rfl) ?_
      refine va_get (D := G) (ci := 5) (v := .ref (aW 0)) (C := RX5) (T := TX5) (N := 11) hx hb hts fi_X5_sure_X5 hown hEN.1 hP 0 rfl rfl 2 (by decide) (hts (.fieldLink RX5 20 "HourWell" "world" "LHourWell$World;") (List.mem_of_getElem? (i := 1) rfl)) (fun _ h9 => h9) rfl dX5_sure_33 ?_
      obtain ⟨o36, ho36, h⟩ := bnd_some h
      refine call_V0 (As := []) (rest := [.int o29]) ⟨hx, hb, hml, hown, hts⟩ (c_X4_hoursAround l G cI cZ aW vW o36 ho36) (cwV 0 hts gX5_sure_X4_hoursAround rfl rfl rfl hdV_X4_hoursAround ⟨Nat.le_of_ble_eq_true rfl, Nat.le_of_ble_eq_true rfl⟩) hEN hA hP hD hS [1] rfl (by decide) 1 rfl rfl rfl hl.1 rfl (Nat.le_of_ble_eq_true rfl) dX5_sure_36 ⟨Nat.le_of_ble_eq_true rfl, Nat.le_of_ble_eq_true rfl⟩ (fun H locs hP hS => ?_)
      refine lv_icmp_ne (tgt := 46) hx hb dX5_sure_39 (by decide) (fun c39 => ?_) (fun c39 => ?_)
      · have h := (if_neg c39).symm.trans h
        refine lv_iconst (v := (0 : Int32)) hx hb dX5_sure_46 k_iconst_0 ?_
        have hres := Option.some.inj h
        subst hres
        exact hRet 47 _ _ _ hP hD hS dX5_sure_47
      · have h := (if_pos c39).symm.trans h
        refine lv_iconst (v := (1 : Int32)) hx hb dX5_sure_42 k_iconst_1 ?_
        refine lv_goto (tgt := 47) hx hb dX5_sure_43 (by decide) ?_
        have hres := Option.some.inj h
        subst hres
        exact hRet 47 _ _ _ hP hD hS dX5_sure_47
    · have h := (if_pos c18).symm.trans h
      refine lv_iconst (v := (-1 : Int32)) hx hb dX5_sure_21 k_iconst_n1 ?_
      have hres := Option.some.inj h
      subst hres
      exact hRet 22 _ _ _ hP hD hS dX5_sure_22
abbrev rm_X5_odds : Room := { frames := 3, cells := 0, slots := 0, locals := 68 }
theorem fi_X5_odds_X5 : ∀ w ∈ wsX50, w ∈ wsX5_odds := fun _ h => List.mem_cons_of_mem _ (List.mem_append_left _ (List.mem_append_right _ h))
theorem fi_X5_odds_X4 : ∀ w ∈ wsX40, w ∈ wsX5_odds := fun _ h => List.mem_cons_of_mem _ (List.mem_append_right _ h)
theorem hdV_X5_odds : yX5_odds.cls = RX5 ∧ yX5_odds.cls ≠ "java/lang/invoke/MethodHandle" ∧ yX5_odds.cls ≠ "java/lang/invoke/VarHandle" ∧ (parseMethodDescriptor yX5_odds.desc).map (fun d => d.parameters.length) = some 3 := by decide +kernel
set_option maxRecDepth 100000 in
set_option maxHeartbeats 4000000 in
theorem c_X5_odds (l : Launch) (G : va_G) (cI cZ : ClassId) (aX : Nat → Nat) (aR : Nat → Nat) (aY : Nat → Nat) (aC : Nat → Nat) (aW : Nat → Nat) (aD : Nat → Nat) (aS : Nat → Nat) (aI : Nat → Nat) (aJ : Nat → Nat) (vT : Int64) (vX : Ob) (vW : Ob) (x1 : Int32) (x2 : Int32) (x3 : Int32) (res : Int32) (h : m_X5_odds vX vW x1 x2 x3 = some res) : Ct l yX5_odds wsX5_odds rm_X5_odds G cI cZ [.ref (aX 0), .int x1, .int x2, .int x3] [oX5 aX aW aD aR aS aI aJ aY aC vX vT, oX4 aW vW, ai cI (aW 6) 7 (vW 6), ai cI (aW 7) 7 (vW 7)] (some (.int res)) [oX5 aX aW aD aR aS aI aJ aY aC vX vT, oX4 aW vW, ai cI (aW 6) 7 (vW 6), ai cI (aW 7) 7 (vW 7)] := by
  refine Ct.of_i (maxL := 7) (by decide) rfl (Nat.le_of_ble_eq_true rfl) ?_
  intro p e s m below meth c args hx hb hml hown hts A hA hEN hP hD hS Q hRet ls hl
  have hown : s.vm.findClass RX5 = some m.cls := hown
  have hl : lv_has ls 7 [(0, .ref (aX 0)), (1, .int x1), (2, .int x2), (3, .int x3)] := hl
  have j79 : ∀ (x6 : Int32) (s0 : Int32), m_X5_odds_j79 vX vW x6 s0 = some res → ∀ (H : Heap) (locs : List Loc) (ls : Array Slot), va_P G vwCl [oX5 aX aW aD aR aS aI aJ aY aC vX vT, oX4 aW vW, ai cI (aW 6) 7 (vW 6), ai cI (aW 7) 7 (vW 7)] H → va_D A [oX5 aX aW aD aR aS aI aJ aY aC vX vT, oX4 aW vW, ai cI (aW 6) 7 (vW 6), ai cI (aW 7) 7 (vW 7)] → va_S A s.heap H locs → lv_has ls 7 [(6, .int x6)] → W p l e rm_X5_odds s m args below meth c H locs 0 0 Q (F0 m 79 ls [.int s0]) := by
    intro x6 s0 h H locs ls hP hD hS hl
    unfold m_X5_odds_j79 at h
    refine lv_iload hx hb dX5_odds_79 (lv_at hl 0 rfl) ?_
    obtain ⟨hg81, h⟩ := grd_some h
    refine lv_idiv hx hb dX5_odds_81 (dec_t hg81) ?_
    have hres := Option.some.inj h
    subst hres
    exact hRet 82 _ _ _ hP hD hS dX5_odds_82
  unfold m_X5_odds at h
  refine lv_aload_n hx hb dX5_odds_0 rfl (lv_at hl 0 rfl) ?_
  refine va_get (D := G) (ci := 5) (v := .ref (aW 0)) (C := RX5) (T := TX5) (N := 11) hx hb hts fi_X5_odds_X5 hown hEN.1 hP 0 rfl rfl 2 (by decide) (hts (.fieldLink RX5 20 "HourWell" "world" "LHourWell$World;") (List.mem_of_getElem? (i := 1) rfl)) (fun _ h9 => h9) rfl dX5_odds_1 ?_
  refine lv_iload_n hx hb dX5_odds_4 rfl (lv_at hl 1 rfl) ?_
  obtain ⟨o5, ho5, h⟩ := bnd_some h
  refine call_V0 (As := [.int x1]) (rest := []) ⟨hx, hb, hml, hown, hts⟩ (c_X4_hasPlace l G cI cZ aW vW x1 o5 ho5) (cwV 1 hts gX5_odds_X4_hasPlace rfl rfl rfl hdV_X4_hasPlace ⟨Nat.le_of_ble_eq_true rfl, Nat.le_of_ble_eq_true rfl⟩) hEN hA hP hD hS [1] rfl (by decide) 1 rfl rfl rfl hl.1 rfl (Nat.le_of_ble_eq_true rfl) dX5_odds_5 ⟨Nat.le_of_ble_eq_true rfl, Nat.le_of_ble_eq_true rfl⟩ (fun H locs hP hS => ?_)
  refine lv_if_eq (tgt := 30) hx hb dX5_odds_8 (by decide) (fun c8 => ?_) (fun c8 => ?_)
  · have h := (if_pos c8).symm.trans h
    refine lv_iconst (v := (-1 : Int32)) hx hb dX5_odds_30 k_iconst_n1 ?_
    have hres := Option.some.inj h
    subst hres
    exact hRet 31 _ _ _ hP hD hS dX5_odds_31
  · have h := (if_neg c8).symm.trans h
    refine lv_iload_n hx hb dX5_odds_11 rfl (lv_at hl 2 rfl) ?_
    refine lv_iconst (v := (0 : Int32)) hx hb dX5_odds_12 k_iconst_0 ?_
    refine lv_bipush (v := (23 : Int32)) hx hb dX5_odds_13 k_bipush_23 ?_
    obtain ⟨o15, ho15, h⟩ := bnd_some h
    refine call_S0 (As := [.int x2, .int (0 : Int32), .int (23 : Int32)]) (rest := []) ⟨hx, hb, hml, hown, hts⟩ (c_X5_isWithin l G cI cZ  x2 (0 : Int32) (23 : Int32) o15 ho15) (va_cwS 3 hts gX5_odds_X5_isWithin rfl rfl rfl hdS_X5_isWithin ⟨Nat.le_of_ble_eq_true rfl, Nat.le_of_ble_eq_true rfl⟩) hEN hA hP hD hS [] rfl (by decide) rfl hl.1 rfl (Nat.le_of_ble_eq_true rfl) dX5_odds_15 ⟨Nat.le_of_ble_eq_true rfl, Nat.le_of_ble_eq_true rfl⟩ (fun H locs hP hS => ?_)
    refine lv_if_eq (tgt := 30) hx hb dX5_odds_18 (by decide) (fun c18 => ?_) (fun c18 => ?_)
    · have h := (if_pos c18).symm.trans h
      refine lv_iconst (v := (-1 : Int32)) hx hb dX5_odds_30 k_iconst_n1 ?_
      have hres := Option.some.inj h
      subst hres
      exact hRet 31 _ _ _ hP hD hS dX5_odds_31
    · have h := (if_neg c18).symm.trans h
      refine lv_iload_n hx hb dX5_odds_21 rfl (lv_at hl 3 rfl) ?_
      refine lv_iconst (v := (0 : Int32)) hx hb dX5_odds_22 k_iconst_0 ?_
      refine lv_iconst (v := (1 : Int32)) hx hb dX5_odds_23 k_iconst_1 ?_
      obtain ⟨o24, ho24, h⟩ := bnd_some h
      refine call_S0 (As := [.int x3, .int (0 : Int32), .int (1 : Int32)]) (rest := []) ⟨hx, hb, hml, hown, hts⟩ (c_X5_isWithin l G cI cZ  x3 (0 : Int32) (1 : Int32) o24 ho24) (va_cwS 3 hts gX5_odds_X5_isWithin rfl rfl rfl hdS_X5_isWithin ⟨Nat.le_of_ble_eq_true rfl, Nat.le_of_ble_eq_true rfl⟩) hEN hA hP hD hS [] rfl (by decide) rfl hl.1 rfl (Nat.le_of_ble_eq_true rfl) dX5_odds_24 ⟨Nat.le_of_ble_eq_true rfl, Nat.le_of_ble_eq_true rfl⟩ (fun H locs hP hS => ?_)
      refine lv_if_ne (tgt := 32) hx hb dX5_odds_27 (by decide) (fun c27 => ?_) (fun c27 => ?_)
      · have h := (if_neg c27).symm.trans h
        refine lv_aload_n hx hb dX5_odds_32 rfl (lv_at hl 0 rfl) ?_
        refine va_get (D := G) (ci := 5) (v := .ref (aW 0)) (C := RX5) (T := TX5) (N := 11) hx hb hts fi_X5_odds_X5 hown hEN.1 hP 0 rfl rfl 2 (by decide) (hts (.fieldLink RX5 20 "HourWell" "world" "LHourWell$World;") (List.mem_of_getElem? (i := 1) rfl)) (fun _ h9 => h9) rfl dX5_odds_33 ?_
        refine lv_iload_n hx hb dX5_odds_36 rfl (lv_at hl 1 rfl) ?_
        refine lv_iload_n hx hb dX5_odds_37 rfl (lv_at hl 2 rfl) ?_
        obtain ⟨o38, ho38, h⟩ := bnd_some h
        refine call_V0 (As := [.int x1, .int x2]) (rest := []) ⟨hx, hb, hml, hown, hts⟩ (c_X4_openAround l G cI cZ aW vW x1 x2 o38 ho38) (cwV 2 hts gX5_odds_X4_openAround rfl rfl rfl hdV_X4_openAround ⟨Nat.le_of_ble_eq_true rfl, Nat.le_of_ble_eq_true rfl⟩) hEN hA hP hD hS [1, 2, 3] rfl (by decide) 1 rfl rfl rfl hl.1 rfl (Nat.le_of_ble_eq_true rfl) dX5_odds_38 ⟨Nat.le_of_ble_eq_true rfl, Nat.le_of_ble_eq_true rfl⟩ (fun H locs hP hS => ?_)
        refine lv_istore (lv' := [(4, .int o38), (0, .ref (aX 0)), (1, .int x1), (2, .int x2), (3, .int x3)]) hx hb dX5_odds_41 hl (by decide) rfl (fun ls hl => ?_)
        refine lv_aload_n hx hb dX5_odds_43 rfl (lv_at hl 1 rfl) ?_
        refine va_get (D := G) (ci := 5) (v := .ref (aW 0)) (C := RX5) (T := TX5) (N := 11) hx hb hts fi_X5_odds_X5 hown hEN.1 hP 0 rfl rfl 2 (by decide) (hts (.fieldLink RX5 20 "HourWell" "world" "LHourWell$World;") (List.mem_of_getElem? (i := 1) rfl)) (fun _ h9 => h9) rfl dX5_odds_44 ?_
        obtain ⟨o47, ho47, h⟩ := bnd_some h
        refine call_V0 (As := []) (rest := []) ⟨hx, hb, hml, hown, hts⟩ (c_X4_hoursAround l G cI cZ aW vW o47 ho47) (cwV 0 hts gX5_odds_X4_hoursAround rfl rfl rfl hdV_X4_hoursAround ⟨Nat.le_of_ble_eq_true rfl, Nat.le_of_ble_eq_true rfl⟩) hEN hA hP hD hS [1] rfl (by decide) 1 rfl rfl rfl hl.1 rfl (Nat.le_of_ble_eq_true rfl) dX5_odds_47 ⟨Nat.le_of_ble_eq_true rfl, Nat.le_of_ble_eq_true rfl⟩ (fun H locs hP hS => ?_)
        refine lv_istore (lv' := [(5, .int o47), (4, .int o38), (0, .ref (aX 0)), (1, .int x1), (2, .int x2), (3, .int x3)]) hx hb dX5_odds_50 hl (by decide) rfl (fun ls hl => ?_)
        refine lv_iload hx hb dX5_odds_52 (lv_at hl 1 rfl) ?_
        refine lv_iload hx hb dX5_odds_54 (lv_at hl 0 rfl) ?_
        obtain ⟨o56, ho56, h⟩ := bnd_some h
        refine call_S0 (As := [.int o38, .int o47]) (rest := []) ⟨hx, hb, hml, hown, hts⟩ (c_X5_greatestDivisor l G cI cZ  o38 o47 o56 ho56) (va_cwS 2 hts gX5_odds_X5_greatestDivisor rfl rfl rfl hdS_X5_greatestDivisor ⟨Nat.le_of_ble_eq_true rfl, Nat.le_of_ble_eq_true rfl⟩) hEN hA hP hD hS [] rfl (by decide) rfl hl.1 rfl (Nat.le_of_ble_eq_true rfl) dX5_odds_56 ⟨Nat.le_of_ble_eq_true rfl, Nat.le_of_ble_eq_true rfl⟩ (fun H locs hP hS => ?_)
        refine lv_istore (lv' := [(6, .int o56), (5, .int o47), (4, .int o38), (0, .ref (aX 0)), (1, .int x1), (2, .int x2), (3, .int x3)]) hx hb dX5_odds_59 hl (by decide) rfl (fun ls hl => ?_)
        refine lv_iload hx hb dX5_odds_61 (lv_at hl 0 rfl) ?_
        refine lv_if_ne (tgt := 68) hx hb dX5_odds_63 (by decide) (fun c63 => ?_) (fun c63 => ?_)
        · have h := (if_neg c63).symm.trans h
          refine lv_iload_n hx hb dX5_odds_68 rfl (lv_at hl 6 rfl) ?_
          refine lv_if_ne (tgt := 77) hx hb dX5_odds_69 (by decide) (fun c69 => ?_) (fun c69 => ?_)
          · have h := (if_neg c69).symm.trans h
            refine lv_iload hx hb dX5_odds_77 (lv_at hl 1 rfl) ?_
            exact j79 o56 o47 h _ _ _ hP hD hS (lv_sub hl [0] rfl)
          · have h := (if_pos c69).symm.trans h
            refine lv_iload hx hb dX5_odds_72 (lv_at hl 2 rfl) ?_
            refine lv_goto (tgt := 79) hx hb dX5_odds_74 (by decide) ?_
            exact j79 o56 o38 h _ _ _ hP hD hS (lv_sub hl [0] rfl)
        · have h := (if_pos c63).symm.trans h
          refine lv_iconst (v := (0 : Int32)) hx hb dX5_odds_66 k_iconst_0 ?_
          have hres := Option.some.inj h
          subst hres
          exact hRet 67 _ _ _ hP hD hS dX5_odds_67
      · have h := (if_pos c27).symm.trans h
        refine lv_iconst (v := (-1 : Int32)) hx hb dX5_odds_30 k_iconst_n1 ?_
        have hres := Option.some.inj h
        subst hres
        exact hRet 31 _ _ _ hP hD hS dX5_odds_31
abbrev rm_X5_swaps : Room := { frames := 2, cells := 0, slots := 0, locals := 44 }
theorem fi_X5_swaps_X5 : ∀ w ∈ wsX50, w ∈ wsX5_swaps := fun _ h => List.mem_cons_of_mem _ (List.mem_append_left _ (List.mem_append_right _ h))
theorem fi_X5_swaps_X0 : ∀ w ∈ wsX00, w ∈ wsX5_swaps := fun _ h => List.mem_cons_of_mem _ (List.mem_append_right _ h)
theorem hdV_X5_swaps : yX5_swaps.cls = RX5 ∧ yX5_swaps.cls ≠ "java/lang/invoke/MethodHandle" ∧ yX5_swaps.cls ≠ "java/lang/invoke/VarHandle" ∧ (parseMethodDescriptor yX5_swaps.desc).map (fun d => d.parameters.length) = some 2 := by decide +kernel
set_option maxRecDepth 100000 in
set_option maxHeartbeats 4000000 in
theorem c_X5_swaps (l : Launch) (G : va_G) (cI cZ : ClassId) (aX : Nat → Nat) (aR : Nat → Nat) (aY : Nat → Nat) (aC : Nat → Nat) (aW : Nat → Nat) (aD : Nat → Nat) (aS : Nat → Nat) (aI : Nat → Nat) (aJ : Nat → Nat) (vT : Int64) (vX : Ob) (vC : Ob) (x1 : Int32) (x2 : Int32) (res : Int32 × Ob) (h : m_X5_swaps vX vC x1 x2 = some res) : Ct l yX5_swaps wsX5_swaps rm_X5_swaps G cI cZ [.ref (aX 0), .int x1, .int x2] [oX5 aX aW aD aR aS aI aJ aY aC vX vT, oX0 aC vC, ai cI (aC 4) 6 (vC 4), ai cI (aC 5) 6 (vC 5), ai cI (aC 6) 6 (vC 6), ai cI (aC 7) 6 (vC 7), ai cI (aC 8) 64 (vC 8)] (some (.int res.1)) [oX5 aX aW aD aR aS aI aJ aY aC vX vT, oX0 aC res.2, ai cI (aC 4) 6 (res.2 4), ai cI (aC 5) 6 (res.2 5), ai cI (aC 6) 6 (res.2 6), ai cI (aC 7) 6 (res.2 7), ai cI (aC 8) 64 (res.2 8)] := by
  refine Ct.of_i (maxL := 3) (by decide) rfl (Nat.le_of_ble_eq_true rfl) ?_
  intro p e s m below meth c args hx hb hml hown hts A hA hEN hP hD hS Q hRet ls hl
  have hown : s.vm.findClass RX5 = some m.cls := hown
  have hl : lv_has ls 3 [(0, .ref (aX 0)), (1, .int x1), (2, .int x2)] := hl
  unfold m_X5_swaps at h
  refine lv_iload_n hx hb dX5_swaps_0 rfl (lv_at hl 1 rfl) ?_
  obtain ⟨o1, ho1, h⟩ := bnd_some h
  refine call_S0 (As := [.int x1]) (rest := []) ⟨hx, hb, hml, hown, hts⟩ (c_X5_isSeat l G cI cZ  x1 o1 ho1) (va_cwS 1 hts gX5_swaps_X5_isSeat rfl rfl rfl hdS_X5_isSeat ⟨Nat.le_of_ble_eq_true rfl, Nat.le_of_ble_eq_true rfl⟩) hEN hA hP hD hS [] rfl (by decide) rfl hl.1 rfl (Nat.le_of_ble_eq_true rfl) dX5_swaps_1 ⟨Nat.le_of_ble_eq_true rfl, Nat.le_of_ble_eq_true rfl⟩ (fun H locs hP hS => ?_)
  refine lv_if_eq (tgt := 19) hx hb dX5_swaps_4 (by decide) (fun c4 => ?_) (fun c4 => ?_)
  · have h := (if_pos c4).symm.trans h
    refine lv_iconst (v := (-1 : Int32)) hx hb dX5_swaps_19 k_iconst_n1 ?_
    have hres := Option.some.inj h
    subst hres
    exact hRet 20 _ _ _ hP hD hS dX5_swaps_20
  · have h := (if_neg c4).symm.trans h
    refine lv_iload_n hx hb dX5_swaps_7 rfl (lv_at hl 2 rfl) ?_
    obtain ⟨o8, ho8, h⟩ := bnd_some h
    refine call_S0 (As := [.int x2]) (rest := []) ⟨hx, hb, hml, hown, hts⟩ (c_X5_isSeat l G cI cZ  x2 o8 ho8) (va_cwS 1 hts gX5_swaps_X5_isSeat rfl rfl rfl hdS_X5_isSeat ⟨Nat.le_of_ble_eq_true rfl, Nat.le_of_ble_eq_true rfl⟩) hEN hA hP hD hS [] rfl (by decide) rfl hl.1 rfl (Nat.le_of_ble_eq_true rfl) dX5_swaps_8 ⟨Nat.le_of_ble_eq_true rfl, Nat.le_of_ble_eq_true rfl⟩ (fun H locs hP hS => ?_)
    refine lv_if_eq (tgt := 19) hx hb dX5_swaps_11 (by decide) (fun c11 => ?_) (fun c11 => ?_)
    · have h := (if_pos c11).symm.trans h
      refine lv_iconst (v := (-1 : Int32)) hx hb dX5_swaps_19 k_iconst_n1 ?_
      have hres := Option.some.inj h
      subst hres
      exact hRet 20 _ _ _ hP hD hS dX5_swaps_20
    · have h := (if_neg c11).symm.trans h
      refine lv_iload_n hx hb dX5_swaps_14 rfl (lv_at hl 1 rfl) ?_
      refine lv_iload_n hx hb dX5_swaps_15 rfl (lv_at hl 2 rfl) ?_
      refine lv_icmp_ne (tgt := 21) hx hb dX5_swaps_16 (by decide) (fun c16 => ?_) (fun c16 => ?_)
      · have h := (if_neg c16).symm.trans h
        refine lv_aload_n hx hb dX5_swaps_21 rfl (lv_at hl 0 rfl) ?_
        refine va_get (D := G) (ci := 5) (v := .ref (aC 0)) (C := RX5) (T := TX5) (N := 11) hx hb hts fi_X5_swaps_X5 hown hEN.1 hP 0 rfl rfl 9 (by decide) (hts (.fieldLink RX5 61 "HourWell" "cups" "LHourWell$Cups;") (List.mem_of_getElem? (i := 1) rfl)) (fun _ h9 => h9) rfl dX5_swaps_22 ?_
        refine lv_iload_n hx hb dX5_swaps_25 rfl (lv_at hl 1 rfl) ?_
        refine lv_iload_n hx hb dX5_swaps_26 rfl (lv_at hl 2 rfl) ?_
        obtain ⟨o27, ho27, h⟩ := bnd_some h
        refine call_VJ (wr := [oX5 aX aW aD aR aS aI aJ aY aC vX vT]) (As := [.int x1, .int x2]) (rest := []) ⟨hx, hb, hml, hown, hts⟩ (c_X0_addSwap l G cI cZ aC vC x1 x2 o27 ho27) (cwV 2 hts gX5_swaps_X0_addSwap rfl rfl rfl hdV_X0_addSwap ⟨Nat.le_of_ble_eq_true rfl, Nat.le_of_ble_eq_true rfl⟩) hEN hA hP hD hS [1, 2, 3, 4, 5, 6] [0] rfl (by decide) rfl (by decide) (by decide) 1 rfl rfl rfl hl.1 rfl (Nat.le_of_ble_eq_true rfl) dX5_swaps_27 ⟨Nat.le_of_ble_eq_true rfl, Nat.le_of_ble_eq_true rfl⟩ (fun H locs hP hD hS => ?_)
        have hP : va_P G vwCl [oX5 aX aW aD aR aS aI aJ aY aC vX vT, oX0 aC o27.2, ai cI (aC 4) 6 (o27.2 4), ai cI (aC 5) 6 (o27.2 5), ai cI (aC 6) 6 (o27.2 6), ai cI (aC 7) 6 (o27.2 7), ai cI (aC 8) 64 (o27.2 8)] H := hP
        have hD : va_D A [oX5 aX aW aD aR aS aI aJ aY aC vX vT, oX0 aC o27.2, ai cI (aC 4) 6 (o27.2 4), ai cI (aC 5) 6 (o27.2 5), ai cI (aC 6) 6 (o27.2 6), ai cI (aC 7) 6 (o27.2 7), ai cI (aC 8) 64 (o27.2 8)] := hD
        refine lv_if_eq (tgt := 43) hx hb dX5_swaps_30 (by decide) (fun c30 => ?_) (fun c30 => ?_)
        · have h := (if_pos c30).symm.trans h
          refine lv_bipush (v := (-3 : Int32)) hx hb dX5_swaps_43 k_bipush_n3 ?_
          have hres := Option.some.inj h
          subst hres
          exact hRet 45 _ _ _ hP hD hS dX5_swaps_45
        · have h := (if_neg c30).symm.trans h
          refine lv_aload_n hx hb dX5_swaps_33 rfl (lv_at hl 0 rfl) ?_
          refine va_get (D := G) (ci := 5) (v := .ref (aC 0)) (C := RX5) (T := TX5) (N := 11) hx hb hts fi_X5_swaps_X5 hown hEN.1 hP 0 rfl rfl 9 (by decide) (hts (.fieldLink RX5 61 "HourWell" "cups" "LHourWell$Cups;") (List.mem_of_getElem? (i := 1) rfl)) (fun _ h9 => h9) rfl dX5_swaps_34 ?_
          refine va_get (D := G) (ci := 0) (v := .int (o27.2 0 0)) (C := RX0) (T := TX0) (N := 8) hx hb hts fi_X5_swaps_X0 hown hEN.1 hP 1 rfl rfl 0 (by decide) (hts (.fieldLink RX5 222 "HourWell$Cups" "swapped" "I") (List.mem_of_getElem? (i := 2) rfl)) (fun _ h9 => h9) rfl dX5_swaps_37 ?_
          refine lv_goto (tgt := 45) hx hb dX5_swaps_40 (by decide) ?_
          have hres := Option.some.inj h
          subst hres
          exact hRet 45 _ _ _ hP hD hS dX5_swaps_45
      · have h := (if_pos c16).symm.trans h
        refine lv_iconst (v := (-1 : Int32)) hx hb dX5_swaps_19 k_iconst_n1 ?_
        have hres := Option.some.inj h
        subst hres
        exact hRet 20 _ _ _ hP hD hS dX5_swaps_20
abbrev rm_X5_tastes : Room := { frames := 2, cells := 0, slots := 0, locals := 44 }
theorem fi_X5_tastes_X5 : ∀ w ∈ wsX50, w ∈ wsX5_tastes := fun _ h => List.mem_cons_of_mem _ (List.mem_append_left _ (List.mem_append_right _ h))
theorem fi_X5_tastes_X0 : ∀ w ∈ wsX00, w ∈ wsX5_tastes := fun _ h => List.mem_cons_of_mem _ (List.mem_append_right _ h)
theorem hdV_X5_tastes : yX5_tastes.cls = RX5 ∧ yX5_tastes.cls ≠ "java/lang/invoke/MethodHandle" ∧ yX5_tastes.cls ≠ "java/lang/invoke/VarHandle" ∧ (parseMethodDescriptor yX5_tastes.desc).map (fun d => d.parameters.length) = some 2 := by decide +kernel
set_option maxRecDepth 100000 in
set_option maxHeartbeats 4000000 in
theorem c_X5_tastes (l : Launch) (G : va_G) (cI cZ : ClassId) (aX : Nat → Nat) (aR : Nat → Nat) (aY : Nat → Nat) (aC : Nat → Nat) (aW : Nat → Nat) (aD : Nat → Nat) (aS : Nat → Nat) (aI : Nat → Nat) (aJ : Nat → Nat) (vT : Int64) (vX : Ob) (vC : Ob) (x1 : Int32) (x2 : Int32) (res : Int32 × Ob) (h : m_X5_tastes vX vC x1 x2 = some res) : Ct l yX5_tastes wsX5_tastes rm_X5_tastes G cI cZ [.ref (aX 0), .int x1, .int x2] [oX5 aX aW aD aR aS aI aJ aY aC vX vT, oX0 aC vC, ai cI (aC 4) 6 (vC 4), ai cI (aC 5) 6 (vC 5), ai cI (aC 6) 6 (vC 6), ai cI (aC 7) 6 (vC 7), ai cI (aC 8) 64 (vC 8)] (some (.int res.1)) [oX5 aX aW aD aR aS aI aJ aY aC vX vT, oX0 aC res.2, ai cI (aC 4) 6 (res.2 4), ai cI (aC 5) 6 (res.2 5), ai cI (aC 6) 6 (res.2 6), ai cI (aC 7) 6 (res.2 7), ai cI (aC 8) 64 (res.2 8)] := by
  refine Ct.of_i (maxL := 3) (by decide) rfl (Nat.le_of_ble_eq_true rfl) ?_
  intro p e s m below meth c args hx hb hml hown hts A hA hEN hP hD hS Q hRet ls hl
  have hown : s.vm.findClass RX5 = some m.cls := hown
  have hl : lv_has ls 3 [(0, .ref (aX 0)), (1, .int x1), (2, .int x2)] := hl
  unfold m_X5_tastes at h
  refine lv_iload_n hx hb dX5_tastes_0 rfl (lv_at hl 1 rfl) ?_
  obtain ⟨o1, ho1, h⟩ := bnd_some h
  refine call_S0 (As := [.int x1]) (rest := []) ⟨hx, hb, hml, hown, hts⟩ (c_X5_isSeat l G cI cZ  x1 o1 ho1) (va_cwS 1 hts gX5_tastes_X5_isSeat rfl rfl rfl hdS_X5_isSeat ⟨Nat.le_of_ble_eq_true rfl, Nat.le_of_ble_eq_true rfl⟩) hEN hA hP hD hS [] rfl (by decide) rfl hl.1 rfl (Nat.le_of_ble_eq_true rfl) dX5_tastes_1 ⟨Nat.le_of_ble_eq_true rfl, Nat.le_of_ble_eq_true rfl⟩ (fun H locs hP hS => ?_)
  refine lv_if_eq (tgt := 14) hx hb dX5_tastes_4 (by decide) (fun c4 => ?_) (fun c4 => ?_)
  · have h := (if_pos c4).symm.trans h
    refine lv_iconst (v := (-1 : Int32)) hx hb dX5_tastes_14 k_iconst_n1 ?_
    have hres := Option.some.inj h
    subst hres
    exact hRet 15 _ _ _ hP hD hS dX5_tastes_15
  · have h := (if_neg c4).symm.trans h
    refine lv_iload_n hx hb dX5_tastes_7 rfl (lv_at hl 2 rfl) ?_
    obtain ⟨o8, ho8, h⟩ := bnd_some h
    refine call_S0 (As := [.int x2]) (rest := []) ⟨hx, hb, hml, hown, hts⟩ (c_X5_isSeat l G cI cZ  x2 o8 ho8) (va_cwS 1 hts gX5_tastes_X5_isSeat rfl rfl rfl hdS_X5_isSeat ⟨Nat.le_of_ble_eq_true rfl, Nat.le_of_ble_eq_true rfl⟩) hEN hA hP hD hS [] rfl (by decide) rfl hl.1 rfl (Nat.le_of_ble_eq_true rfl) dX5_tastes_8 ⟨Nat.le_of_ble_eq_true rfl, Nat.le_of_ble_eq_true rfl⟩ (fun H locs hP hS => ?_)
    refine lv_if_ne (tgt := 16) hx hb dX5_tastes_11 (by decide) (fun c11 => ?_) (fun c11 => ?_)
    · have h := (if_neg c11).symm.trans h
      refine lv_aload_n hx hb dX5_tastes_16 rfl (lv_at hl 0 rfl) ?_
      refine va_get (D := G) (ci := 5) (v := .ref (aC 0)) (C := RX5) (T := TX5) (N := 11) hx hb hts fi_X5_tastes_X5 hown hEN.1 hP 0 rfl rfl 9 (by decide) (hts (.fieldLink RX5 61 "HourWell" "cups" "LHourWell$Cups;") (List.mem_of_getElem? (i := 1) rfl)) (fun _ h9 => h9) rfl dX5_tastes_17 ?_
      refine lv_iload_n hx hb dX5_tastes_20 rfl (lv_at hl 1 rfl) ?_
      refine lv_iload_n hx hb dX5_tastes_21 rfl (lv_at hl 2 rfl) ?_
      obtain ⟨o22, ho22, h⟩ := bnd_some h
      refine call_VJ (wr := [oX5 aX aW aD aR aS aI aJ aY aC vX vT]) (As := [.int x1, .int x2]) (rest := []) ⟨hx, hb, hml, hown, hts⟩ (c_X0_addTaste l G cI cZ aC vC x1 x2 o22 ho22) (cwV 2 hts gX5_tastes_X0_addTaste rfl rfl rfl hdV_X0_addTaste ⟨Nat.le_of_ble_eq_true rfl, Nat.le_of_ble_eq_true rfl⟩) hEN hA hP hD hS [1, 2, 3, 4, 5, 6] [0] rfl (by decide) rfl (by decide) (by decide) 1 rfl rfl rfl hl.1 rfl (Nat.le_of_ble_eq_true rfl) dX5_tastes_22 ⟨Nat.le_of_ble_eq_true rfl, Nat.le_of_ble_eq_true rfl⟩ (fun H locs hP hD hS => ?_)
      have hP : va_P G vwCl [oX5 aX aW aD aR aS aI aJ aY aC vX vT, oX0 aC o22.2, ai cI (aC 4) 6 (o22.2 4), ai cI (aC 5) 6 (o22.2 5), ai cI (aC 6) 6 (o22.2 6), ai cI (aC 7) 6 (o22.2 7), ai cI (aC 8) 64 (o22.2 8)] H := hP
      have hD : va_D A [oX5 aX aW aD aR aS aI aJ aY aC vX vT, oX0 aC o22.2, ai cI (aC 4) 6 (o22.2 4), ai cI (aC 5) 6 (o22.2 5), ai cI (aC 6) 6 (o22.2 6), ai cI (aC 7) 6 (o22.2 7), ai cI (aC 8) 64 (o22.2 8)] := hD
      refine lv_if_eq (tgt := 38) hx hb dX5_tastes_25 (by decide) (fun c25 => ?_) (fun c25 => ?_)
      · have h := (if_pos c25).symm.trans h
        refine lv_bipush (v := (-3 : Int32)) hx hb dX5_tastes_38 k_bipush_n3 ?_
        have hres := Option.some.inj h
        subst hres
        exact hRet 40 _ _ _ hP hD hS dX5_tastes_40
      · have h := (if_neg c25).symm.trans h
        refine lv_aload_n hx hb dX5_tastes_28 rfl (lv_at hl 0 rfl) ?_
        refine va_get (D := G) (ci := 5) (v := .ref (aC 0)) (C := RX5) (T := TX5) (N := 11) hx hb hts fi_X5_tastes_X5 hown hEN.1 hP 0 rfl rfl 9 (by decide) (hts (.fieldLink RX5 61 "HourWell" "cups" "LHourWell$Cups;") (List.mem_of_getElem? (i := 1) rfl)) (fun _ h9 => h9) rfl dX5_tastes_29 ?_
        refine va_get (D := G) (ci := 0) (v := .int (o22.2 0 1)) (C := RX0) (T := TX0) (N := 8) hx hb hts fi_X5_tastes_X0 hown hEN.1 hP 1 rfl rfl 1 (by decide) (hts (.fieldLink RX5 228 "HourWell$Cups" "tasted" "I") (List.mem_of_getElem? (i := 2) rfl)) (fun _ h9 => h9) rfl dX5_tastes_32 ?_
        refine lv_goto (tgt := 40) hx hb dX5_tastes_35 (by decide) ?_
        have hres := Option.some.inj h
        subst hres
        exact hRet 40 _ _ _ hP hD hS dX5_tastes_40
    · have h := (if_pos c11).symm.trans h
      refine lv_iconst (v := (-1 : Int32)) hx hb dX5_tastes_14 k_iconst_n1 ?_
      have hres := Option.some.inj h
      subst hres
      exact hRet 15 _ _ _ hP hD hS dX5_tastes_15
abbrev rm_X5_clears : Room := { frames := 1, cells := 0, slots := 0, locals := 20 }
theorem fi_X5_clears_X5 : ∀ w ∈ wsX50, w ∈ wsX5_clears := fun _ h => List.mem_cons_of_mem _ (List.mem_append_left _ (List.mem_append_right _ h))
theorem fi_X5_clears_X0 : ∀ w ∈ wsX00, w ∈ wsX5_clears := fun _ h => List.mem_cons_of_mem _ (List.mem_append_right _ h)
theorem hdV_X5_clears : yX5_clears.cls = RX5 ∧ yX5_clears.cls ≠ "java/lang/invoke/MethodHandle" ∧ yX5_clears.cls ≠ "java/lang/invoke/VarHandle" ∧ (parseMethodDescriptor yX5_clears.desc).map (fun d => d.parameters.length) = some 0 := by decide +kernel
set_option maxRecDepth 100000 in
set_option maxHeartbeats 4000000 in
theorem c_X5_clears (l : Launch) (G : va_G) (cI cZ : ClassId) (aX : Nat → Nat) (aR : Nat → Nat) (aY : Nat → Nat) (aC : Nat → Nat) (aW : Nat → Nat) (aD : Nat → Nat) (aS : Nat → Nat) (aI : Nat → Nat) (aJ : Nat → Nat) (vT : Int64) (vX : Ob) (vC : Ob)  (res : Int32 × Ob) (h : m_X5_clears vX vC  = some res) : Ct l yX5_clears wsX5_clears rm_X5_clears G cI cZ [.ref (aX 0)] [oX5 aX aW aD aR aS aI aJ aY aC vX vT, oX0 aC vC, ai cI (aC 4) 6 (vC 4), ai cI (aC 5) 6 (vC 5), ai cI (aC 6) 6 (vC 6), ai cI (aC 7) 6 (vC 7), ai cI (aC 8) 64 (vC 8)] (some (.int res.1)) [oX5 aX aW aD aR aS aI aJ aY aC vX vT, oX0 aC res.2, ai cI (aC 4) 6 (res.2 4), ai cI (aC 5) 6 (res.2 5), ai cI (aC 6) 6 (res.2 6), ai cI (aC 7) 6 (res.2 7), ai cI (aC 8) 64 (res.2 8)] := by
  refine Ct.of_i (maxL := 2) (by decide) rfl (Nat.le_of_ble_eq_true rfl) ?_
  intro p e s m below meth c args hx hb hml hown hts A hA hEN hP hD hS Q hRet ls hl
  have hown : s.vm.findClass RX5 = some m.cls := hown
  have hl : lv_has ls 2 [(0, .ref (aX 0))] := hl
  unfold m_X5_clears at h
  refine lv_aload_n hx hb dX5_clears_0 rfl (lv_at hl 0 rfl) ?_
  refine va_get (D := G) (ci := 5) (v := .ref (aC 0)) (C := RX5) (T := TX5) (N := 11) hx hb hts fi_X5_clears_X5 hown hEN.1 hP 0 rfl rfl 9 (by decide) (hts (.fieldLink RX5 61 "HourWell" "cups" "LHourWell$Cups;") (List.mem_of_getElem? (i := 1) rfl)) (fun _ h9 => h9) rfl dX5_clears_1 ?_
  refine va_get (D := G) (ci := 0) (v := .int (vC 0 0)) (C := RX0) (T := TX0) (N := 8) hx hb hts fi_X5_clears_X0 hown hEN.1 hP 1 rfl rfl 0 (by decide) (hts (.fieldLink RX5 222 "HourWell$Cups" "swapped" "I") (List.mem_of_getElem? (i := 2) rfl)) (fun _ h9 => h9) rfl dX5_clears_4 ?_
  refine lv_aload_n hx hb dX5_clears_7 rfl (lv_at hl 0 rfl) ?_
  refine va_get (D := G) (ci := 5) (v := .ref (aC 0)) (C := RX5) (T := TX5) (N := 11) hx hb hts fi_X5_clears_X5 hown hEN.1 hP 0 rfl rfl 9 (by decide) (hts (.fieldLink RX5 61 "HourWell" "cups" "LHourWell$Cups;") (List.mem_of_getElem? (i := 1) rfl)) (fun _ h9 => h9) rfl dX5_clears_8 ?_
  refine va_get (D := G) (ci := 0) (v := .int (vC 0 1)) (C := RX0) (T := TX0) (N := 8) hx hb hts fi_X5_clears_X0 hown hEN.1 hP 1 rfl rfl 1 (by decide) (hts (.fieldLink RX5 228 "HourWell$Cups" "tasted" "I") (List.mem_of_getElem? (i := 3) rfl)) (fun _ h9 => h9) rfl dX5_clears_11 ?_
  refine lv_iadd hx hb dX5_clears_14 ?_
  refine lv_istore_n (lv' := [(1, .int ((vC 0 0) + (vC 0 1))), (0, .ref (aX 0))]) hx hb dX5_clears_15 rfl hl (by decide) rfl (fun ls hl => ?_)
  refine lv_aload_n hx hb dX5_clears_16 rfl (lv_at hl 1 rfl) ?_
  refine va_get (D := G) (ci := 5) (v := .ref (aC 0)) (C := RX5) (T := TX5) (N := 11) hx hb hts fi_X5_clears_X5 hown hEN.1 hP 0 rfl rfl 9 (by decide) (hts (.fieldLink RX5 61 "HourWell" "cups" "LHourWell$Cups;") (List.mem_of_getElem? (i := 1) rfl)) (fun _ h9 => h9) rfl dX5_clears_17 ?_
  obtain ⟨o20, ho20, h⟩ := bnd_some h
  refine call_VJ (wr := [oX5 aX aW aD aR aS aI aJ aY aC vX vT]) (As := []) (rest := []) ⟨hx, hb, hml, hown, hts⟩ (c_X0_forgetAll l G cI cZ aC vC o20 ho20) (cwV 0 hts gX5_clears_X0_forgetAll rfl rfl rfl hdV_X0_forgetAll ⟨Nat.le_of_ble_eq_true rfl, Nat.le_of_ble_eq_true rfl⟩) hEN hA hP hD hS [1, 2, 3, 4, 5, 6] [0] rfl (by decide) rfl (by decide) (by decide) 1 rfl rfl rfl hl.1 rfl (Nat.le_of_ble_eq_true rfl) dX5_clears_20 ⟨Nat.le_of_ble_eq_true rfl, Nat.le_of_ble_eq_true rfl⟩ (fun H locs hP hD hS => ?_)
  have hP : va_P G vwCl [oX5 aX aW aD aR aS aI aJ aY aC vX vT, oX0 aC o20, ai cI (aC 4) 6 (o20 4), ai cI (aC 5) 6 (o20 5), ai cI (aC 6) 6 (o20 6), ai cI (aC 7) 6 (o20 7), ai cI (aC 8) 64 (o20 8)] H := hP
  have hD : va_D A [oX5 aX aW aD aR aS aI aJ aY aC vX vT, oX0 aC o20, ai cI (aC 4) 6 (o20 4), ai cI (aC 5) 6 (o20 5), ai cI (aC 6) 6 (o20 6), ai cI (aC 7) 6 (o20 7), ai cI (aC 8) 64 (o20 8)] := hD
  refine lv_iload_n hx hb dX5_clears_23 rfl (lv_at hl 0 rfl) ?_
  have hres := Option.some.inj h
  subst hres
  exact hRet 24 _ _ _ hP hD hS dX5_clears_24
abbrev rm_X5_lie : Room := { frames := 4, cells := 0, slots := 0, locals := 91 }
theorem fi_X5_lie_X5 : ∀ w ∈ wsX50, w ∈ wsX5_lie := fun _ h => List.mem_cons_of_mem _ (List.mem_append_left _ (List.mem_append_right _ h))
theorem fi_X5_lie_X0 : ∀ w ∈ wsX00, w ∈ wsX5_lie := fun _ h => List.mem_cons_of_mem _ (List.mem_append_right _ h)
theorem hdV_X5_lie : yX5_lie.cls = RX5 ∧ yX5_lie.cls ≠ "java/lang/invoke/MethodHandle" ∧ yX5_lie.cls ≠ "java/lang/invoke/VarHandle" ∧ (parseMethodDescriptor yX5_lie.desc).map (fun d => d.parameters.length) = some 2 := by decide +kernel
set_option maxRecDepth 100000 in
set_option maxHeartbeats 4000000 in
theorem c_X5_lie (l : Launch) (G : va_G) (cI cZ : ClassId) (aX : Nat → Nat) (aR : Nat → Nat) (aY : Nat → Nat) (aC : Nat → Nat) (aW : Nat → Nat) (aD : Nat → Nat) (aS : Nat → Nat) (aI : Nat → Nat) (aJ : Nat → Nat) (vT : Int64) (vX : Ob) (vC : Ob) (x1 : Int32) (x2 : Int32) (res : Int32 × Ob) (h : m_X5_lie vX vC x1 x2 = some res) : Ct l yX5_lie wsX5_lie rm_X5_lie G cI cZ [.ref (aX 0), .int x1, .int x2] [oX5 aX aW aD aR aS aI aJ aY aC vX vT, oX0 aC vC, ai cI (aC 4) 6 (vC 4), ai cI (aC 5) 6 (vC 5), ai cI (aC 6) 6 (vC 6), ai cI (aC 7) 6 (vC 7), ai cI (aC 8) 64 (vC 8)] (some (.int res.1)) [oX5 aX aW aD aR aS aI aJ aY aC vX vT, oX0 aC res.2, ai cI (aC 4) 6 (res.2 4), ai cI (aC 5) 6 (res.2 5), ai cI (aC 6) 6 (res.2 6), ai cI (aC 7) 6 (res.2 7), ai cI (aC 8) 64 (res.2 8)] := by
  refine Ct.of_i (maxL := 3) (by decide) rfl (Nat.le_of_ble_eq_true rfl) ?_
  intro p e s m below meth c args hx hb hml hown hts A hA hEN hP hD hS Q hRet ls hl
  have hown : s.vm.findClass RX5 = some m.cls := hown
  have hl : lv_has ls 3 [(0, .ref (aX 0)), (1, .int x1), (2, .int x2)] := hl
  unfold m_X5_lie at h
  refine lv_iload_n hx hb dX5_lie_0 rfl (lv_at hl 1 rfl) ?_
  refine lv_iconst (v := (2 : Int32)) hx hb dX5_lie_1 k_iconst_2 ?_
  refine lv_iconst (v := (5 : Int32)) hx hb dX5_lie_2 k_iconst_5 ?_
  obtain ⟨o3, ho3, h⟩ := bnd_some h
  refine call_S0 (As := [.int x1, .int (2 : Int32), .int (5 : Int32)]) (rest := []) ⟨hx, hb, hml, hown, hts⟩ (c_X5_isWithin l G cI cZ  x1 (2 : Int32) (5 : Int32) o3 ho3) (va_cwS 3 hts gX5_lie_X5_isWithin rfl rfl rfl hdS_X5_isWithin ⟨Nat.le_of_ble_eq_true rfl, Nat.le_of_ble_eq_true rfl⟩) hEN hA hP hD hS [] rfl (by decide) rfl hl.1 rfl (Nat.le_of_ble_eq_true rfl) dX5_lie_3 ⟨Nat.le_of_ble_eq_true rfl, Nat.le_of_ble_eq_true rfl⟩ (fun H locs hP hS => ?_)
  refine lv_if_eq (tgt := 21) hx hb dX5_lie_6 (by decide) (fun c6 => ?_) (fun c6 => ?_)
  · have h := (if_pos c6).symm.trans h
    refine lv_iconst (v := (-1 : Int32)) hx hb dX5_lie_21 k_iconst_n1 ?_
    have hres := Option.some.inj h
    subst hres
    exact hRet 22 _ _ _ hP hD hS dX5_lie_22
  · have h := (if_neg c6).symm.trans h
    refine lv_iload_n hx hb dX5_lie_9 rfl (lv_at hl 2 rfl) ?_
    refine lv_bipush (v := (-2 : Int32)) hx hb dX5_lie_10 k_bipush_n2 ?_
    refine lv_iload_n hx hb dX5_lie_12 rfl (lv_at hl 1 rfl) ?_
    refine lv_iconst (v := (1 : Int32)) hx hb dX5_lie_13 k_iconst_1 ?_
    refine lv_isub hx hb dX5_lie_14 ?_
    obtain ⟨o15, ho15, h⟩ := bnd_some h
    refine call_S0 (As := [.int x2, .int (-2 : Int32), .int (x1 - (1 : Int32))]) (rest := []) ⟨hx, hb, hml, hown, hts⟩ (c_X5_isWithin l G cI cZ  x2 (-2 : Int32) (x1 - (1 : Int32)) o15 ho15) (va_cwS 3 hts gX5_lie_X5_isWithin rfl rfl rfl hdS_X5_isWithin ⟨Nat.le_of_ble_eq_true rfl, Nat.le_of_ble_eq_true rfl⟩) hEN hA hP hD hS [] rfl (by decide) rfl hl.1 rfl (Nat.le_of_ble_eq_true rfl) dX5_lie_15 ⟨Nat.le_of_ble_eq_true rfl, Nat.le_of_ble_eq_true rfl⟩ (fun H locs hP hS => ?_)
    refine lv_if_ne (tgt := 23) hx hb dX5_lie_18 (by decide) (fun c18 => ?_) (fun c18 => ?_)
    · have h := (if_neg c18).symm.trans h
      refine lv_aload_n hx hb dX5_lie_23 rfl (lv_at hl 0 rfl) ?_
      refine va_get (D := G) (ci := 5) (v := .ref (aC 0)) (C := RX5) (T := TX5) (N := 11) hx hb hts fi_X5_lie_X5 hown hEN.1 hP 0 rfl rfl 9 (by decide) (hts (.fieldLink RX5 61 "HourWell" "cups" "LHourWell$Cups;") (List.mem_of_getElem? (i := 1) rfl)) (fun _ h9 => h9) rfl dX5_lie_24 ?_
      refine lv_iload_n hx hb dX5_lie_27 rfl (lv_at hl 1 rfl) ?_
      obtain ⟨o28, ho28, h⟩ := bnd_some h
      refine call_VJ (wr := [oX5 aX aW aD aR aS aI aJ aY aC vX vT]) (As := [.int x1]) (rest := []) ⟨hx, hb, hml, hown, hts⟩ (c_X0_gatherRows l G cI cZ aC vC x1 o28 ho28) (cwV 1 hts gX5_lie_X0_gatherRows rfl rfl rfl hdV_X0_gatherRows ⟨Nat.le_of_ble_eq_true rfl, Nat.le_of_ble_eq_true rfl⟩) hEN hA hP hD hS [1, 2, 3, 4, 5, 6] [0] rfl (by decide) rfl (by decide) (by decide) 1 rfl rfl rfl hl.1 rfl (Nat.le_of_ble_eq_true rfl) dX5_lie_28 ⟨Nat.le_of_ble_eq_true rfl, Nat.le_of_ble_eq_true rfl⟩ (fun H locs hP hD hS => ?_)
      have hP : va_P G vwCl [oX5 aX aW aD aR aS aI aJ aY aC vX vT, oX0 aC o28, ai cI (aC 4) 6 (o28 4), ai cI (aC 5) 6 (o28 5), ai cI (aC 6) 6 (o28 6), ai cI (aC 7) 6 (o28 7), ai cI (aC 8) 64 (o28 8)] H := hP
      have hD : va_D A [oX5 aX aW aD aR aS aI aJ aY aC vX vT, oX0 aC o28, ai cI (aC 4) 6 (o28 4), ai cI (aC 5) 6 (o28 5), ai cI (aC 6) 6 (o28 6), ai cI (aC 7) 6 (o28 7), ai cI (aC 8) 64 (o28 8)] := hD
      refine lv_iload_n hx hb dX5_lie_31 rfl (lv_at hl 2 rfl) ?_
      refine lv_iconst (v := (-1 : Int32)) hx hb dX5_lie_32 k_iconst_n1 ?_
      refine lv_icmp_ne (tgt := 44) hx hb dX5_lie_33 (by decide) (fun c33 => ?_) (fun c33 => ?_)
      · have h := (if_neg c33).symm.trans h
        refine lv_iload_n hx hb dX5_lie_44 rfl (lv_at hl 2 rfl) ?_
        refine lv_bipush (v := (-2 : Int32)) hx hb dX5_lie_45 k_bipush_n2 ?_
        refine lv_icmp_ne (tgt := 61) hx hb dX5_lie_47 (by decide) (fun c47 => ?_) (fun c47 => ?_)
        · have h := (if_neg c47).symm.trans h
          refine lv_aload_n hx hb dX5_lie_61 rfl (lv_at hl 0 rfl) ?_
          refine va_get (D := G) (ci := 5) (v := .ref (aC 0)) (C := RX5) (T := TX5) (N := 11) hx hb hts fi_X5_lie_X5 hown hEN.1 hP 0 rfl rfl 9 (by decide) (hts (.fieldLink RX5 61 "HourWell" "cups" "LHourWell$Cups;") (List.mem_of_getElem? (i := 1) rfl)) (fun _ h9 => h9) rfl dX5_lie_62 ?_
          refine lv_iload_n hx hb dX5_lie_65 rfl (lv_at hl 2 rfl) ?_
          obtain ⟨o66, ho66, h⟩ := bnd_some h
          refine call_V0 (As := [.int x2]) (rest := []) ⟨hx, hb, hml, hown, hts⟩ (c_X0_surelyOn l G cI cZ aC o28 x2 o66 ho66) (cwV 1 hts gX5_lie_X0_surelyOn rfl rfl rfl hdV_X0_surelyOn ⟨Nat.le_of_ble_eq_true rfl, Nat.le_of_ble_eq_true rfl⟩) hEN hA hP hD hS [1, 6] rfl (by decide) 1 rfl rfl rfl hl.1 rfl (Nat.le_of_ble_eq_true rfl) dX5_lie_66 ⟨Nat.le_of_ble_eq_true rfl, Nat.le_of_ble_eq_true rfl⟩ (fun H locs hP hS => ?_)
          have hres := Option.some.inj h
          subst hres
          exact hRet 69 _ _ _ hP hD hS dX5_lie_69
        · have h := (if_pos c47).symm.trans h
          refine lv_aload_n hx hb dX5_lie_50 rfl (lv_at hl 0 rfl) ?_
          refine va_get (D := G) (ci := 5) (v := .ref (aC 0)) (C := RX5) (T := TX5) (N := 11) hx hb hts fi_X5_lie_X5 hown hEN.1 hP 0 rfl rfl 9 (by decide) (hts (.fieldLink RX5 61 "HourWell" "cups" "LHourWell$Cups;") (List.mem_of_getElem? (i := 1) rfl)) (fun _ h9 => h9) rfl dX5_lie_51 ?_
          refine lv_iload_n hx hb dX5_lie_54 rfl (lv_at hl 1 rfl) ?_
          obtain ⟨o55, ho55, h⟩ := bnd_some h
          refine call_V0 (As := [.int x1]) (rest := []) ⟨hx, hb, hml, hown, hts⟩ (c_X0_bestTaste l G cI cZ aC o28 x1 o55 ho55) (cwV 1 hts gX5_lie_X0_bestTaste rfl rfl rfl hdV_X0_bestTaste ⟨Nat.le_of_ble_eq_true rfl, Nat.le_of_ble_eq_true rfl⟩) hEN hA hP hD hS [1, 6] rfl (by decide) 1 rfl rfl rfl hl.1 rfl (Nat.le_of_ble_eq_true rfl) dX5_lie_55 ⟨Nat.le_of_ble_eq_true rfl, Nat.le_of_ble_eq_true rfl⟩ (fun H locs hP hS => ?_)
          refine lv_goto (tgt := 69) hx hb dX5_lie_58 (by decide) ?_
          have hres := Option.some.inj h
          subst hres
          exact hRet 69 _ _ _ hP hD hS dX5_lie_69
      · have h := (if_pos c33).symm.trans h
        refine lv_aload_n hx hb dX5_lie_36 rfl (lv_at hl 0 rfl) ?_
        refine va_get (D := G) (ci := 5) (v := .ref (aC 0)) (C := RX5) (T := TX5) (N := 11) hx hb hts fi_X5_lie_X5 hown hEN.1 hP 0 rfl rfl 9 (by decide) (hts (.fieldLink RX5 61 "HourWell" "cups" "LHourWell$Cups;") (List.mem_of_getElem? (i := 1) rfl)) (fun _ h9 => h9) rfl dX5_lie_37 ?_
        refine va_get (D := G) (ci := 0) (v := .int (o28 0 2)) (C := RX0) (T := TX0) (N := 8) hx hb hts fi_X5_lie_X0 hown hEN.1 hP 1 rfl rfl 2 (by decide) (hts (.fieldLink RX5 234 "HourWell$Cups" "rowCount" "I") (List.mem_of_getElem? (i := 2) rfl)) (fun _ h9 => h9) rfl dX5_lie_40 ?_
        have hres := Option.some.inj h
        subst hres
        exact hRet 43 _ _ _ hP hD hS dX5_lie_43
    · have h := (if_pos c18).symm.trans h
      refine lv_iconst (v := (-1 : Int32)) hx hb dX5_lie_21 k_iconst_n1 ?_
      have hres := Option.some.inj h
      subst hres
      exact hRet 22 _ _ _ hP hD hS dX5_lie_22
abbrev rm_X5_markOfHost : Room := { frames := 2, cells := 0, slots := 0, locals := 42 }
theorem fi_X5_markOfHost_X5 : ∀ w ∈ wsX50, w ∈ wsX5_markOfHost := fun _ h => List.mem_cons_of_mem _ (List.mem_append_left _ (List.mem_append_right _ h))
theorem fi_X5_markOfHost_X4 : ∀ w ∈ wsX40, w ∈ wsX5_markOfHost := fun _ h => List.mem_cons_of_mem _ (List.mem_append_right _ h)
theorem hdV_X5_markOfHost : yX5_markOfHost.cls = RX5 ∧ yX5_markOfHost.cls ≠ "java/lang/invoke/MethodHandle" ∧ yX5_markOfHost.cls ≠ "java/lang/invoke/VarHandle" ∧ (parseMethodDescriptor yX5_markOfHost.desc).map (fun d => d.parameters.length) = some 1 := by decide +kernel
set_option maxRecDepth 100000 in
set_option maxHeartbeats 4000000 in
theorem c_X5_markOfHost (l : Launch) (G : va_G) (cI cZ : ClassId) (aX : Nat → Nat) (aR : Nat → Nat) (aY : Nat → Nat) (aC : Nat → Nat) (aW : Nat → Nat) (aD : Nat → Nat) (aS : Nat → Nat) (aI : Nat → Nat) (aJ : Nat → Nat) (vX : Ob) (vW : Ob) (vT : Int64) (x1 : Int32) (res : Int32 × Int64) (h : m_X5_markOfHost vX vW vT x1 = some res) : Ct l yX5_markOfHost wsX5_markOfHost rm_X5_markOfHost G cI cZ [.ref (aX 0), .int x1] [oX5 aX aW aD aR aS aI aJ aY aC vX vT, oX4 aW vW, ai cI (aW 12) 6 (vW 12)] (some (.int res.1)) [oX5 aX aW aD aR aS aI aJ aY aC vX res.2, oX4 aW vW, ai cI (aW 12) 6 (vW 12)] := by
  refine Ct.of_i (maxL := 2) (by decide) rfl (Nat.le_of_ble_eq_true rfl) ?_
  intro p e s m below meth c args hx hb hml hown hts A hA hEN hP hD hS Q hRet ls hl
  have hown : s.vm.findClass RX5 = some m.cls := hown
  have hl : lv_has ls 2 [(0, .ref (aX 0)), (1, .int x1)] := hl
  unfold m_X5_markOfHost at h
  refine lv_aload_n hx hb dX5_markOfHost_0 rfl (lv_at hl 0 rfl) ?_
  refine lv_dup hx hb dX5_markOfHost_1 rfl ?_
  refine va_get (D := G) (ci := 5) (v := .long vT) (C := RX5) (T := TX5) (N := 11) hx hb hts fi_X5_markOfHost_X5 hown hEN.1 hP 0 rfl rfl 10 (by decide) (hts (.fieldLink RX5 65 "HourWell" "traced" "J") (List.mem_of_getElem? (i := 1) rfl)) (fun _ h9 => h9) rfl dX5_markOfHost_2 ?_
  refine lv_lconst (v := (1 : Int64)) hx hb dX5_markOfHost_5 (by decide) ?_
  refine lv_ladd hx hb dX5_markOfHost_6 ?_
  refine lv_topl (fun tq6 et6 => ?_)
  rw [← et6] at h
  refine va_put (D := G) (ci := 5) (v := .long tq6) (ty := .long) (C := RX5) (T := TX5) (N := 11) hx hb hts fi_X5_markOfHost_X5 tyX5 tyX5_ok nmX5 hown hEN.1 hP hD hS 0 rfl rfl 10 (by decide) (hts (.fieldLink RX5 65 "HourWell" "traced" "J") (List.mem_of_getElem? (i := 1) rfl)) (fun _ h9 => h9) rfl (by decide +kernel) rfl rfl (Nat.le_of_ble_eq_true rfl) dX5_markOfHost_7 (fun H locs hP hD hS => ?_)
  have hP : va_P G vwCl [oX5 aX aW aD aR aS aI aJ aY aC vX tq6, oX4 aW vW, ai cI (aW 12) 6 (vW 12)] H := hP
  have hD : va_D A [oX5 aX aW aD aR aS aI aJ aY aC vX tq6, oX4 aW vW, ai cI (aW 12) 6 (vW 12)] := hD
  refine lv_aload_n hx hb dX5_markOfHost_10 rfl (lv_at hl 0 rfl) ?_
  refine va_get (D := G) (ci := 5) (v := .ref (aW 0)) (C := RX5) (T := TX5) (N := 11) hx hb hts fi_X5_markOfHost_X5 hown hEN.1 hP 0 rfl rfl 2 (by decide) (hts (.fieldLink RX5 20 "HourWell" "world" "LHourWell$World;") (List.mem_of_getElem? (i := 2) rfl)) (fun _ h9 => h9) rfl dX5_markOfHost_11 ?_
  refine lv_iload_n hx hb dX5_markOfHost_14 rfl (lv_at hl 1 rfl) ?_
  obtain ⟨o15, ho15, h⟩ := bnd_some h
  refine call_V0 (As := [.int x1]) (rest := []) ⟨hx, hb, hml, hown, hts⟩ (c_X4_hostGives l G cI cZ aW vW x1 o15 ho15) (cwV 1 hts gX5_markOfHost_X4_hostGives rfl rfl rfl hdV_X4_hostGives ⟨Nat.le_of_ble_eq_true rfl, Nat.le_of_ble_eq_true rfl⟩) hEN hA hP hD hS [1, 2] rfl (by decide) 1 rfl rfl rfl hl.1 rfl (Nat.le_of_ble_eq_true rfl) dX5_markOfHost_15 ⟨Nat.le_of_ble_eq_true rfl, Nat.le_of_ble_eq_true rfl⟩ (fun H locs hP hS => ?_)
  have hres := Option.some.inj h
  subst hres
  exact hRet 18 _ _ _ hP hD hS dX5_markOfHost_18
abbrev rm_X5_markOfDwarf : Room := { frames := 3, cells := 0, slots := 0, locals := 63 }
theorem fi_X5_markOfDwarf_X5 : ∀ w ∈ wsX50, w ∈ wsX5_markOfDwarf := fun _ h => List.mem_cons_of_mem _ (List.mem_append_left _ (List.mem_append_left _ (List.mem_append_right _ h)))
theorem fi_X5_markOfDwarf_X2 : ∀ w ∈ wsX20, w ∈ wsX5_markOfDwarf := fun _ h => List.mem_cons_of_mem _ (List.mem_append_left _ (List.mem_append_right _ h))
theorem fi_X5_markOfDwarf_X4 : ∀ w ∈ wsX40, w ∈ wsX5_markOfDwarf := fun _ h => List.mem_cons_of_mem _ (List.mem_append_right _ h)
theorem hdV_X5_markOfDwarf : yX5_markOfDwarf.cls = RX5 ∧ yX5_markOfDwarf.cls ≠ "java/lang/invoke/MethodHandle" ∧ yX5_markOfDwarf.cls ≠ "java/lang/invoke/VarHandle" ∧ (parseMethodDescriptor yX5_markOfDwarf.desc).map (fun d => d.parameters.length) = some 1 := by decide +kernel
set_option maxRecDepth 100000 in
set_option maxHeartbeats 4000000 in
theorem c_X5_markOfDwarf (l : Launch) (G : va_G) (cI cZ : ClassId) (aX : Nat → Nat) (aR : Nat → Nat) (aY : Nat → Nat) (aC : Nat → Nat) (aW : Nat → Nat) (aD : Nat → Nat) (aS : Nat → Nat) (aI : Nat → Nat) (aJ : Nat → Nat) (vX : Ob) (vW : Ob) (vS : Ob) (vT : Int64) (x1 : Int32) (res : Int32 × Int64) (h : m_X5_markOfDwarf vX vW vS vT x1 = some res) : Ct l yX5_markOfDwarf wsX5_markOfDwarf rm_X5_markOfDwarf G cI cZ [.ref (aX 0), .int x1] [oX5 aX aW aD aR aS aI aJ aY aC vX vT, oX4 aW vW, ai cI (aW 12) 6 (vW 12), oX2 aS vS] (some (.int res.1)) [oX5 aX aW aD aR aS aI aJ aY aC vX res.2, oX4 aW vW, ai cI (aW 12) 6 (vW 12), oX2 aS vS] := by
  refine Ct.of_i (maxL := 2) (by decide) rfl (Nat.le_of_ble_eq_true rfl) ?_
  intro p e s m below meth c args hx hb hml hown hts A hA hEN hP hD hS Q hRet ls hl
  have hown : s.vm.findClass RX5 = some m.cls := hown
  have hl : lv_has ls 2 [(0, .ref (aX 0)), (1, .int x1)] := hl
  unfold m_X5_markOfDwarf at h
  refine lv_aload_n hx hb dX5_markOfDwarf_0 rfl (lv_at hl 0 rfl) ?_
  refine lv_dup hx hb dX5_markOfDwarf_1 rfl ?_
  refine va_get (D := G) (ci := 5) (v := .long vT) (C := RX5) (T := TX5) (N := 11) hx hb hts fi_X5_markOfDwarf_X5 hown hEN.1 hP 0 rfl rfl 10 (by decide) (hts (.fieldLink RX5 65 "HourWell" "traced" "J") (List.mem_of_getElem? (i := 1) rfl)) (fun _ h9 => h9) rfl dX5_markOfDwarf_2 ?_
  refine lv_ldc2 (v := (100000 : Int64)) hx hb hown (hts (.constantLong RX5 275 (100000)) (List.mem_of_getElem? (i := 2) rfl)) dX5_markOfDwarf_5 ?_
  refine lv_ladd hx hb dX5_markOfDwarf_8 ?_
  refine lv_topl (fun tq8 et8 => ?_)
  rw [← et8] at h
  refine va_put (D := G) (ci := 5) (v := .long tq8) (ty := .long) (C := RX5) (T := TX5) (N := 11) hx hb hts fi_X5_markOfDwarf_X5 tyX5 tyX5_ok nmX5 hown hEN.1 hP hD hS 0 rfl rfl 10 (by decide) (hts (.fieldLink RX5 65 "HourWell" "traced" "J") (List.mem_of_getElem? (i := 1) rfl)) (fun _ h9 => h9) rfl (by decide +kernel) rfl rfl (Nat.le_of_ble_eq_true rfl) dX5_markOfDwarf_9 (fun H locs hP hD hS => ?_)
  have hP : va_P G vwCl [oX5 aX aW aD aR aS aI aJ aY aC vX tq8, oX4 aW vW, ai cI (aW 12) 6 (vW 12), oX2 aS vS] H := hP
  have hD : va_D A [oX5 aX aW aD aR aS aI aJ aY aC vX tq8, oX4 aW vW, ai cI (aW 12) 6 (vW 12), oX2 aS vS] := hD
  refine lv_aload_n hx hb dX5_markOfDwarf_12 rfl (lv_at hl 0 rfl) ?_
  refine lv_iload_n hx hb dX5_markOfDwarf_13 rfl (lv_at hl 1 rfl) ?_
  obtain ⟨o14, ho14, h⟩ := bnd_some h
  refine call_VJ (wr := [oX2 aS vS]) (As := [.int x1]) (rest := []) ⟨hx, hb, hml, hown, hts⟩ (c_X5_markOfHost l G cI cZ aX aR aY aC aW aD aS aI aJ vX vW tq8 x1 o14 ho14) (cwV 1 hts gX5_markOfDwarf_X5_markOfHost rfl rfl rfl hdV_X5_markOfHost ⟨Nat.le_of_ble_eq_true rfl, Nat.le_of_ble_eq_true rfl⟩) hEN hA hP hD hS [0, 1, 2] [3] rfl (by decide) rfl (by decide) (by decide) 0 rfl rfl rfl hl.1 rfl (Nat.le_of_ble_eq_true rfl) dX5_markOfDwarf_14 ⟨Nat.le_of_ble_eq_true rfl, Nat.le_of_ble_eq_true rfl⟩ (fun H locs hP hD hS => ?_)
  have hP : va_P G vwCl [oX2 aS vS, oX5 aX aW aD aR aS aI aJ aY aC vX o14.2, oX4 aW vW, ai cI (aW 12) 6 (vW 12)] H := hP
  have hD : va_D A [oX2 aS vS, oX5 aX aW aD aR aS aI aJ aY aC vX o14.2, oX4 aW vW, ai cI (aW 12) 6 (vW 12)] := hD
  refine lv_aload_n hx hb dX5_markOfDwarf_17 rfl (lv_at hl 0 rfl) ?_
  refine va_get (D := G) (ci := 5) (v := .ref (aS 0)) (C := RX5) (T := TX5) (N := 11) hx hb hts fi_X5_markOfDwarf_X5 hown hEN.1 hP 1 rfl rfl 5 (by decide) (hts (.fieldLink RX5 39 "HourWell" "son" "LHourWell$Son;") (List.mem_of_getElem? (i := 3) rfl)) (fun _ h9 => h9) rfl dX5_markOfDwarf_18 ?_
  refine va_get (D := G) (ci := 2) (v := .int (vS 0 1)) (C := RX2) (T := TX2) (N := 8) hx hb hts fi_X5_markOfDwarf_X2 hown hEN.1 hP 0 rfl rfl 1 (by decide) (hts (.fieldLink RX5 144 "HourWell$Son" "hour" "I") (List.mem_of_getElem? (i := 4) rfl)) (fun _ h9 => h9) rfl dX5_markOfDwarf_21 ?_
  refine lv_bipush (v := (24 : Int32)) hx hb dX5_markOfDwarf_24 k_bipush_24 ?_
  refine lv_rem hx hb dX5_markOfDwarf_26 (by decide) ?_
  refine lv_iadd hx hb dX5_markOfDwarf_27 ?_
  have hres := Option.some.inj h
  subst hres
  exact hRet 28 _ _ _ (hP.sub [1, 2, 3, 0] rfl) (hD.sub [1, 2, 3, 0] (by decide) rfl) hS dX5_markOfDwarf_28
abbrev rm_X5_markOfOffended : Room := { frames := 3, cells := 0, slots := 0, locals := 63 }
theorem fi_X5_markOfOffended_X5 : ∀ w ∈ wsX50, w ∈ wsX5_markOfOffended := fun _ h => List.mem_cons_of_mem _ (List.mem_append_left _ (List.mem_append_right _ h))
theorem fi_X5_markOfOffended_X4 : ∀ w ∈ wsX40, w ∈ wsX5_markOfOffended := fun _ h => List.mem_cons_of_mem _ (List.mem_append_right _ h)
theorem hdV_X5_markOfOffended : yX5_markOfOffended.cls = RX5 ∧ yX5_markOfOffended.cls ≠ "java/lang/invoke/MethodHandle" ∧ yX5_markOfOffended.cls ≠ "java/lang/invoke/VarHandle" ∧ (parseMethodDescriptor yX5_markOfOffended.desc).map (fun d => d.parameters.length) = some 1 := by decide +kernel
set_option maxRecDepth 100000 in
set_option maxHeartbeats 4000000 in
theorem c_X5_markOfOffended (l : Launch) (G : va_G) (cI cZ : ClassId) (aX : Nat → Nat) (aR : Nat → Nat) (aY : Nat → Nat) (aC : Nat → Nat) (aW : Nat → Nat) (aD : Nat → Nat) (aS : Nat → Nat) (aI : Nat → Nat) (aJ : Nat → Nat) (vX : Ob) (vW : Ob) (vT : Int64) (x1 : Int32) (res : Int32 × Int64) (h : m_X5_markOfOffended vX vW vT x1 = some res) : Ct l yX5_markOfOffended wsX5_markOfOffended rm_X5_markOfOffended G cI cZ [.ref (aX 0), .int x1] [oX5 aX aW aD aR aS aI aJ aY aC vX vT, oX4 aW vW, ai cI (aW 12) 6 (vW 12), ai cI (aW 13) 6 (vW 13)] (some (.int res.1)) [oX5 aX aW aD aR aS aI aJ aY aC vX res.2, oX4 aW vW, ai cI (aW 12) 6 (vW 12), ai cI (aW 13) 6 (vW 13)] := by
  refine Ct.of_i (maxL := 2) (by decide) rfl (Nat.le_of_ble_eq_true rfl) ?_
  intro p e s m below meth c args hx hb hml hown hts A hA hEN hP hD hS Q hRet ls hl
  have hown : s.vm.findClass RX5 = some m.cls := hown
  have hl : lv_has ls 2 [(0, .ref (aX 0)), (1, .int x1)] := hl
  unfold m_X5_markOfOffended at h
  refine lv_aload_n hx hb dX5_markOfOffended_0 rfl (lv_at hl 0 rfl) ?_
  refine lv_dup hx hb dX5_markOfOffended_1 rfl ?_
  refine va_get (D := G) (ci := 5) (v := .long vT) (C := RX5) (T := TX5) (N := 11) hx hb hts fi_X5_markOfOffended_X5 hown hEN.1 hP 0 rfl rfl 10 (by decide) (hts (.fieldLink RX5 65 "HourWell" "traced" "J") (List.mem_of_getElem? (i := 1) rfl)) (fun _ h9 => h9) rfl dX5_markOfOffended_2 ?_
  refine lv_ldc2 (v := (100 : Int64)) hx hb hown (hts (.constantLong RX5 264 (100)) (List.mem_of_getElem? (i := 2) rfl)) dX5_markOfOffended_5 ?_
  refine lv_ladd hx hb dX5_markOfOffended_8 ?_
  refine lv_topl (fun tq8 et8 => ?_)
  rw [← et8] at h
  refine va_put (D := G) (ci := 5) (v := .long tq8) (ty := .long) (C := RX5) (T := TX5) (N := 11) hx hb hts fi_X5_markOfOffended_X5 tyX5 tyX5_ok nmX5 hown hEN.1 hP hD hS 0 rfl rfl 10 (by decide) (hts (.fieldLink RX5 65 "HourWell" "traced" "J") (List.mem_of_getElem? (i := 1) rfl)) (fun _ h9 => h9) rfl (by decide +kernel) rfl rfl (Nat.le_of_ble_eq_true rfl) dX5_markOfOffended_9 (fun H locs hP hD hS => ?_)
  have hP : va_P G vwCl [oX5 aX aW aD aR aS aI aJ aY aC vX tq8, oX4 aW vW, ai cI (aW 12) 6 (vW 12), ai cI (aW 13) 6 (vW 13)] H := hP
  have hD : va_D A [oX5 aX aW aD aR aS aI aJ aY aC vX tq8, oX4 aW vW, ai cI (aW 12) 6 (vW 12), ai cI (aW 13) 6 (vW 13)] := hD
  refine lv_aload_n hx hb dX5_markOfOffended_12 rfl (lv_at hl 0 rfl) ?_
  refine lv_iload_n hx hb dX5_markOfOffended_13 rfl (lv_at hl 1 rfl) ?_
  obtain ⟨o14, ho14, h⟩ := bnd_some h
  refine call_VJ (wr := [ai cI (aW 13) 6 (vW 13)]) (As := [.int x1]) (rest := []) ⟨hx, hb, hml, hown, hts⟩ (c_X5_markOfHost l G cI cZ aX aR aY aC aW aD aS aI aJ vX vW tq8 x1 o14 ho14) (cwV 1 hts gX5_markOfOffended_X5_markOfHost rfl rfl rfl hdV_X5_markOfHost ⟨Nat.le_of_ble_eq_true rfl, Nat.le_of_ble_eq_true rfl⟩) hEN hA hP hD hS [0, 1, 2] [3] rfl (by decide) rfl (by decide) (by decide) 0 rfl rfl rfl hl.1 rfl (Nat.le_of_ble_eq_true rfl) dX5_markOfOffended_14 ⟨Nat.le_of_ble_eq_true rfl, Nat.le_of_ble_eq_true rfl⟩ (fun H locs hP hD hS => ?_)
  have hP : va_P G vwCl [ai cI (aW 13) 6 (vW 13), oX5 aX aW aD aR aS aI aJ aY aC vX o14.2, oX4 aW vW, ai cI (aW 12) 6 (vW 12)] H := hP
  have hD : va_D A [ai cI (aW 13) 6 (vW 13), oX5 aX aW aD aR aS aI aJ aY aC vX o14.2, oX4 aW vW, ai cI (aW 12) 6 (vW 12)] := hD
  refine lv_aload_n hx hb dX5_markOfOffended_17 rfl (lv_at hl 0 rfl) ?_
  refine va_get (D := G) (ci := 5) (v := .ref (aW 0)) (C := RX5) (T := TX5) (N := 11) hx hb hts fi_X5_markOfOffended_X5 hown hEN.1 hP 1 rfl rfl 2 (by decide) (hts (.fieldLink RX5 20 "HourWell" "world" "LHourWell$World;") (List.mem_of_getElem? (i := 3) rfl)) (fun _ h9 => h9) rfl dX5_markOfOffended_18 ?_
  refine lv_iload_n hx hb dX5_markOfOffended_21 rfl (lv_at hl 1 rfl) ?_
  obtain ⟨o22, ho22, h⟩ := bnd_some h
  refine call_V0 (As := [.int x1]) (rest := [.int o14.1]) ⟨hx, hb, hml, hown, hts⟩ (c_X4_hostAsks l G cI cZ aW vW x1 o22 ho22) (cwV 1 hts gX5_markOfOffended_X4_hostAsks rfl rfl rfl hdV_X4_hostAsks ⟨Nat.le_of_ble_eq_true rfl, Nat.le_of_ble_eq_true rfl⟩) hEN hA hP hD hS [2, 0] rfl (by decide) 2 rfl rfl rfl hl.1 rfl (Nat.le_of_ble_eq_true rfl) dX5_markOfOffended_22 ⟨Nat.le_of_ble_eq_true rfl, Nat.le_of_ble_eq_true rfl⟩ (fun H locs hP hS => ?_)
  refine lv_isub hx hb dX5_markOfOffended_25 ?_
  have hres := Option.some.inj h
  subst hres
  exact hRet 26 _ _ _ (hP.sub [1, 2, 3, 0] rfl) (hD.sub [1, 2, 3, 0] (by decide) rfl) hS dX5_markOfOffended_26
abbrev rm_X5_markOfFalse : Room := { frames := 4, cells := 0, slots := 0, locals := 84 }
theorem fi_X5_markOfFalse_X5 : ∀ w ∈ wsX50, w ∈ wsX5_markOfFalse := fun _ h => List.mem_cons_of_mem _ (List.mem_append_left _ (List.mem_append_left _ (List.mem_append_right _ h)))
theorem fi_X5_markOfFalse_X2 : ∀ w ∈ wsX20, w ∈ wsX5_markOfFalse := fun _ h => List.mem_cons_of_mem _ (List.mem_append_left _ (List.mem_append_right _ h))
theorem fi_X5_markOfFalse_X4 : ∀ w ∈ wsX40, w ∈ wsX5_markOfFalse := fun _ h => List.mem_cons_of_mem _ (List.mem_append_right _ h)
theorem hdV_X5_markOfFalse : yX5_markOfFalse.cls = RX5 ∧ yX5_markOfFalse.cls ≠ "java/lang/invoke/MethodHandle" ∧ yX5_markOfFalse.cls ≠ "java/lang/invoke/VarHandle" ∧ (parseMethodDescriptor yX5_markOfFalse.desc).map (fun d => d.parameters.length) = some 1 := by decide +kernel
set_option maxRecDepth 100000 in
set_option maxHeartbeats 4000000 in
theorem c_X5_markOfFalse (l : Launch) (G : va_G) (cI cZ : ClassId) (aX : Nat → Nat) (aR : Nat → Nat) (aY : Nat → Nat) (aC : Nat → Nat) (aW : Nat → Nat) (aD : Nat → Nat) (aS : Nat → Nat) (aI : Nat → Nat) (aJ : Nat → Nat) (vX : Ob) (vW : Ob) (vS : Ob) (vT : Int64) (x1 : Int32) (res : Int32 × Int64) (h : m_X5_markOfFalse vX vW vS vT x1 = some res) : Ct l yX5_markOfFalse wsX5_markOfFalse rm_X5_markOfFalse G cI cZ [.ref (aX 0), .int x1] [oX5 aX aW aD aR aS aI aJ aY aC vX vT, oX4 aW vW, ai cI (aW 12) 6 (vW 12), ai cI (aW 13) 6 (vW 13), oX2 aS vS] (some (.int res.1)) [oX5 aX aW aD aR aS aI aJ aY aC vX res.2, oX4 aW vW, ai cI (aW 12) 6 (vW 12), ai cI (aW 13) 6 (vW 13), oX2 aS vS] := by
  refine Ct.of_i (maxL := 2) (by decide) rfl (Nat.le_of_ble_eq_true rfl) ?_
  intro p e s m below meth c args hx hb hml hown hts A hA hEN hP hD hS Q hRet ls hl
  have hown : s.vm.findClass RX5 = some m.cls := hown
  have hl : lv_has ls 2 [(0, .ref (aX 0)), (1, .int x1)] := hl
  unfold m_X5_markOfFalse at h
  refine lv_aload_n hx hb dX5_markOfFalse_0 rfl (lv_at hl 0 rfl) ?_
  refine lv_dup hx hb dX5_markOfFalse_1 rfl ?_
  refine va_get (D := G) (ci := 5) (v := .long vT) (C := RX5) (T := TX5) (N := 11) hx hb hts fi_X5_markOfFalse_X5 hown hEN.1 hP 0 rfl rfl 10 (by decide) (hts (.fieldLink RX5 65 "HourWell" "traced" "J") (List.mem_of_getElem? (i := 1) rfl)) (fun _ h9 => h9) rfl dX5_markOfFalse_2 ?_
  refine lv_ldc2 (v := (10000 : Int64)) hx hb hown (hts (.constantLong RX5 268 (10000)) (List.mem_of_getElem? (i := 2) rfl)) dX5_markOfFalse_5 ?_
  refine lv_ladd hx hb dX5_markOfFalse_8 ?_
  refine lv_topl (fun tq8 et8 => ?_)
  rw [← et8] at h
  refine va_put (D := G) (ci := 5) (v := .long tq8) (ty := .long) (C := RX5) (T := TX5) (N := 11) hx hb hts fi_X5_markOfFalse_X5 tyX5 tyX5_ok nmX5 hown hEN.1 hP hD hS 0 rfl rfl 10 (by decide) (hts (.fieldLink RX5 65 "HourWell" "traced" "J") (List.mem_of_getElem? (i := 1) rfl)) (fun _ h9 => h9) rfl (by decide +kernel) rfl rfl (Nat.le_of_ble_eq_true rfl) dX5_markOfFalse_9 (fun H locs hP hD hS => ?_)
  have hP : va_P G vwCl [oX5 aX aW aD aR aS aI aJ aY aC vX tq8, oX4 aW vW, ai cI (aW 12) 6 (vW 12), ai cI (aW 13) 6 (vW 13), oX2 aS vS] H := hP
  have hD : va_D A [oX5 aX aW aD aR aS aI aJ aY aC vX tq8, oX4 aW vW, ai cI (aW 12) 6 (vW 12), ai cI (aW 13) 6 (vW 13), oX2 aS vS] := hD
  refine lv_aload_n hx hb dX5_markOfFalse_12 rfl (lv_at hl 0 rfl) ?_
  refine lv_iload_n hx hb dX5_markOfFalse_13 rfl (lv_at hl 1 rfl) ?_
  obtain ⟨o14, ho14, h⟩ := bnd_some h
  refine call_VJ (wr := [oX2 aS vS]) (As := [.int x1]) (rest := []) ⟨hx, hb, hml, hown, hts⟩ (c_X5_markOfOffended l G cI cZ aX aR aY aC aW aD aS aI aJ vX vW tq8 x1 o14 ho14) (cwV 1 hts gX5_markOfFalse_X5_markOfOffended rfl rfl rfl hdV_X5_markOfOffended ⟨Nat.le_of_ble_eq_true rfl, Nat.le_of_ble_eq_true rfl⟩) hEN hA hP hD hS [0, 1, 2, 3] [4] rfl (by decide) rfl (by decide) (by decide) 0 rfl rfl rfl hl.1 rfl (Nat.le_of_ble_eq_true rfl) dX5_markOfFalse_14 ⟨Nat.le_of_ble_eq_true rfl, Nat.le_of_ble_eq_true rfl⟩ (fun H locs hP hD hS => ?_)
  have hP : va_P G vwCl [oX2 aS vS, oX5 aX aW aD aR aS aI aJ aY aC vX o14.2, oX4 aW vW, ai cI (aW 12) 6 (vW 12), ai cI (aW 13) 6 (vW 13)] H := hP
  have hD : va_D A [oX2 aS vS, oX5 aX aW aD aR aS aI aJ aY aC vX o14.2, oX4 aW vW, ai cI (aW 12) 6 (vW 12), ai cI (aW 13) 6 (vW 13)] := hD
  refine lv_aload_n hx hb dX5_markOfFalse_17 rfl (lv_at hl 0 rfl) ?_
  refine va_get (D := G) (ci := 5) (v := .ref (aS 0)) (C := RX5) (T := TX5) (N := 11) hx hb hts fi_X5_markOfFalse_X5 hown hEN.1 hP 1 rfl rfl 5 (by decide) (hts (.fieldLink RX5 39 "HourWell" "son" "LHourWell$Son;") (List.mem_of_getElem? (i := 3) rfl)) (fun _ h9 => h9) rfl dX5_markOfFalse_18 ?_
  refine va_get (D := G) (ci := 2) (v := .int (vS 0 2)) (C := RX2) (T := TX2) (N := 8) hx hb hts fi_X5_markOfFalse_X2 hown hEN.1 hP 0 rfl rfl 2 (by decide) (hts (.fieldLink RX5 147 "HourWell$Son" "things" "I") (List.mem_of_getElem? (i := 4) rfl)) (fun _ h9 => h9) rfl dX5_markOfFalse_21 ?_
  obtain ⟨o24, ho24, h⟩ := bnd_some h
  refine call_S0 (As := [.int (vS 0 2)]) (rest := [.int o14.1]) ⟨hx, hb, hml, hown, hts⟩ (c_J6_bitCount_0f7a4 l G cI cZ  (vS 0 2) o24 ho24) (va_cwS 1 hts gX5_markOfFalse_J6_bitCount_0f7a4 rfl rfl rfl hdS_J6_bitCount_0f7a4 ⟨Nat.le_of_ble_eq_true rfl, Nat.le_of_ble_eq_true rfl⟩) hEN hA hP hD hS [] rfl (by decide) rfl hl.1 rfl (Nat.le_of_ble_eq_true rfl) dX5_markOfFalse_24 ⟨Nat.le_of_ble_eq_true rfl, Nat.le_of_ble_eq_true rfl⟩ (fun H locs hP hS => ?_)
  refine lv_iadd hx hb dX5_markOfFalse_27 ?_
  have hres := Option.some.inj h
  subst hres
  exact hRet 28 _ _ _ (hP.sub [1, 2, 3, 4, 0] rfl) (hD.sub [1, 2, 3, 4, 0] (by decide) rfl) hS dX5_markOfFalse_28
abbrev rm_X5_markOfLending : Room := { frames := 3, cells := 0, slots := 0, locals := 63 }
theorem fi_X5_markOfLending_X5 : ∀ w ∈ wsX50, w ∈ wsX5_markOfLending := fun _ h => List.mem_cons_of_mem _ (List.mem_append_left _ (List.mem_append_right _ h))
theorem fi_X5_markOfLending_X4 : ∀ w ∈ wsX40, w ∈ wsX5_markOfLending := fun _ h => List.mem_cons_of_mem _ (List.mem_append_right _ h)
theorem hdV_X5_markOfLending : yX5_markOfLending.cls = RX5 ∧ yX5_markOfLending.cls ≠ "java/lang/invoke/MethodHandle" ∧ yX5_markOfLending.cls ≠ "java/lang/invoke/VarHandle" ∧ (parseMethodDescriptor yX5_markOfLending.desc).map (fun d => d.parameters.length) = some 1 := by decide +kernel
set_option maxRecDepth 100000 in
set_option maxHeartbeats 4000000 in
theorem c_X5_markOfLending (l : Launch) (G : va_G) (cI cZ : ClassId) (aX : Nat → Nat) (aR : Nat → Nat) (aY : Nat → Nat) (aC : Nat → Nat) (aW : Nat → Nat) (aD : Nat → Nat) (aS : Nat → Nat) (aI : Nat → Nat) (aJ : Nat → Nat) (vX : Ob) (vW : Ob) (vT : Int64) (x1 : Int32) (res : Int32 × Int64) (h : m_X5_markOfLending vX vW vT x1 = some res) : Ct l yX5_markOfLending wsX5_markOfLending rm_X5_markOfLending G cI cZ [.ref (aX 0), .int x1] [oX5 aX aW aD aR aS aI aJ aY aC vX vT, oX4 aW vW, ai cI (aW 11) 6 (vW 11), ai cI (aW 12) 6 (vW 12)] (some (.int res.1)) [oX5 aX aW aD aR aS aI aJ aY aC vX res.2, oX4 aW vW, ai cI (aW 11) 6 (vW 11), ai cI (aW 12) 6 (vW 12)] := by
  refine Ct.of_i (maxL := 2) (by decide) rfl (Nat.le_of_ble_eq_true rfl) ?_
  intro p e s m below meth c args hx hb hml hown hts A hA hEN hP hD hS Q hRet ls hl
  have hown : s.vm.findClass RX5 = some m.cls := hown
  have hl : lv_has ls 2 [(0, .ref (aX 0)), (1, .int x1)] := hl
  unfold m_X5_markOfLending at h
  refine lv_aload_n hx hb dX5_markOfLending_0 rfl (lv_at hl 0 rfl) ?_
  refine lv_dup hx hb dX5_markOfLending_1 rfl ?_
  refine va_get (D := G) (ci := 5) (v := .long vT) (C := RX5) (T := TX5) (N := 11) hx hb hts fi_X5_markOfLending_X5 hown hEN.1 hP 0 rfl rfl 10 (by decide) (hts (.fieldLink RX5 65 "HourWell" "traced" "J") (List.mem_of_getElem? (i := 1) rfl)) (fun _ h9 => h9) rfl dX5_markOfLending_2 ?_
  refine lv_ldc2 (v := (10 : Int64)) hx hb hown (hts (.constantLong RX5 262 (10)) (List.mem_of_getElem? (i := 2) rfl)) dX5_markOfLending_5 ?_
  refine lv_ladd hx hb dX5_markOfLending_8 ?_
  refine lv_topl (fun tq8 et8 => ?_)
  rw [← et8] at h
  refine va_put (D := G) (ci := 5) (v := .long tq8) (ty := .long) (C := RX5) (T := TX5) (N := 11) hx hb hts fi_X5_markOfLending_X5 tyX5 tyX5_ok nmX5 hown hEN.1 hP hD hS 0 rfl rfl 10 (by decide) (hts (.fieldLink RX5 65 "HourWell" "traced" "J") (List.mem_of_getElem? (i := 1) rfl)) (fun _ h9 => h9) rfl (by decide +kernel) rfl rfl (Nat.le_of_ble_eq_true rfl) dX5_markOfLending_9 (fun H locs hP hD hS => ?_)
  have hP : va_P G vwCl [oX5 aX aW aD aR aS aI aJ aY aC vX tq8, oX4 aW vW, ai cI (aW 11) 6 (vW 11), ai cI (aW 12) 6 (vW 12)] H := hP
  have hD : va_D A [oX5 aX aW aD aR aS aI aJ aY aC vX tq8, oX4 aW vW, ai cI (aW 11) 6 (vW 11), ai cI (aW 12) 6 (vW 12)] := hD
  refine lv_aload_n hx hb dX5_markOfLending_12 rfl (lv_at hl 0 rfl) ?_
  refine lv_iload_n hx hb dX5_markOfLending_13 rfl (lv_at hl 1 rfl) ?_
  obtain ⟨o14, ho14, h⟩ := bnd_some h
  refine call_VJ (wr := [ai cI (aW 11) 6 (vW 11)]) (As := [.int x1]) (rest := []) ⟨hx, hb, hml, hown, hts⟩ (c_X5_markOfHost l G cI cZ aX aR aY aC aW aD aS aI aJ vX vW tq8 x1 o14 ho14) (cwV 1 hts gX5_markOfLending_X5_markOfHost rfl rfl rfl hdV_X5_markOfHost ⟨Nat.le_of_ble_eq_true rfl, Nat.le_of_ble_eq_true rfl⟩) hEN hA hP hD hS [0, 1, 3] [2] rfl (by decide) rfl (by decide) (by decide) 0 rfl rfl rfl hl.1 rfl (Nat.le_of_ble_eq_true rfl) dX5_markOfLending_14 ⟨Nat.le_of_ble_eq_true rfl, Nat.le_of_ble_eq_true rfl⟩ (fun H locs hP hD hS => ?_)
  have hP : va_P G vwCl [ai cI (aW 11) 6 (vW 11), oX5 aX aW aD aR aS aI aJ aY aC vX o14.2, oX4 aW vW, ai cI (aW 12) 6 (vW 12)] H := hP
  have hD : va_D A [ai cI (aW 11) 6 (vW 11), oX5 aX aW aD aR aS aI aJ aY aC vX o14.2, oX4 aW vW, ai cI (aW 12) 6 (vW 12)] := hD
  refine lv_aload_n hx hb dX5_markOfLending_17 rfl (lv_at hl 0 rfl) ?_
  refine va_get (D := G) (ci := 5) (v := .ref (aW 0)) (C := RX5) (T := TX5) (N := 11) hx hb hts fi_X5_markOfLending_X5 hown hEN.1 hP 1 rfl rfl 2 (by decide) (hts (.fieldLink RX5 20 "HourWell" "world" "LHourWell$World;") (List.mem_of_getElem? (i := 3) rfl)) (fun _ h9 => h9) rfl dX5_markOfLending_18 ?_
  refine lv_iload_n hx hb dX5_markOfLending_21 rfl (lv_at hl 1 rfl) ?_
  obtain ⟨o22, ho22, h⟩ := bnd_some h
  refine call_V0 (As := [.int x1]) (rest := [.int o14.1]) ⟨hx, hb, hml, hown, hts⟩ (c_X4_hostPlace l G cI cZ aW vW x1 o22 ho22) (cwV 1 hts gX5_markOfLending_X4_hostPlace rfl rfl rfl hdV_X4_hostPlace ⟨Nat.le_of_ble_eq_true rfl, Nat.le_of_ble_eq_true rfl⟩) hEN hA hP hD hS [2, 0] rfl (by decide) 2 rfl rfl rfl hl.1 rfl (Nat.le_of_ble_eq_true rfl) dX5_markOfLending_22 ⟨Nat.le_of_ble_eq_true rfl, Nat.le_of_ble_eq_true rfl⟩ (fun H locs hP hS => ?_)
  refine lv_iadd hx hb dX5_markOfLending_25 ?_
  have hres := Option.some.inj h
  subst hres
  exact hRet 26 _ _ _ (hP.sub [1, 2, 0, 3] rfl) (hD.sub [1, 2, 0, 3] (by decide) rfl) hS dX5_markOfLending_26
abbrev rm_X5_markOfTwice : Room := { frames := 4, cells := 0, slots := 0, locals := 84 }
theorem fi_X5_markOfTwice_X5 : ∀ w ∈ wsX50, w ∈ wsX5_markOfTwice := fun _ h => List.mem_cons_of_mem _ (List.mem_append_left _ (List.mem_append_right _ h))
theorem fi_X5_markOfTwice_X4 : ∀ w ∈ wsX40, w ∈ wsX5_markOfTwice := fun _ h => List.mem_cons_of_mem _ (List.mem_append_right _ h)
theorem hdV_X5_markOfTwice : yX5_markOfTwice.cls = RX5 ∧ yX5_markOfTwice.cls ≠ "java/lang/invoke/MethodHandle" ∧ yX5_markOfTwice.cls ≠ "java/lang/invoke/VarHandle" ∧ (parseMethodDescriptor yX5_markOfTwice.desc).map (fun d => d.parameters.length) = some 1 := by decide +kernel
set_option maxRecDepth 100000 in
set_option maxHeartbeats 4000000 in
theorem c_X5_markOfTwice (l : Launch) (G : va_G) (cI cZ : ClassId) (aX : Nat → Nat) (aR : Nat → Nat) (aY : Nat → Nat) (aC : Nat → Nat) (aW : Nat → Nat) (aD : Nat → Nat) (aS : Nat → Nat) (aI : Nat → Nat) (aJ : Nat → Nat) (vX : Ob) (vW : Ob) (vT : Int64) (x1 : Int32) (res : Int32 × Int64) (h : m_X5_markOfTwice vX vW vT x1 = some res) : Ct l yX5_markOfTwice wsX5_markOfTwice rm_X5_markOfTwice G cI cZ [.ref (aX 0), .int x1] [oX5 aX aW aD aR aS aI aJ aY aC vX vT, oX4 aW vW, ai cI (aW 11) 6 (vW 11), ai cI (aW 12) 6 (vW 12)] (some (.int res.1)) [oX5 aX aW aD aR aS aI aJ aY aC vX res.2, oX4 aW vW, ai cI (aW 11) 6 (vW 11), ai cI (aW 12) 6 (vW 12)] := by
  refine Ct.of_i (maxL := 2) (by decide) rfl (Nat.le_of_ble_eq_true rfl) ?_
  intro p e s m below meth c args hx hb hml hown hts A hA hEN hP hD hS Q hRet ls hl
  have hown : s.vm.findClass RX5 = some m.cls := hown
  have hl : lv_has ls 2 [(0, .ref (aX 0)), (1, .int x1)] := hl
  unfold m_X5_markOfTwice at h
  refine lv_aload_n hx hb dX5_markOfTwice_0 rfl (lv_at hl 0 rfl) ?_
  refine lv_dup hx hb dX5_markOfTwice_1 rfl ?_
  refine va_get (D := G) (ci := 5) (v := .long vT) (C := RX5) (T := TX5) (N := 11) hx hb hts fi_X5_markOfTwice_X5 hown hEN.1 hP 0 rfl rfl 10 (by decide) (hts (.fieldLink RX5 65 "HourWell" "traced" "J") (List.mem_of_getElem? (i := 1) rfl)) (fun _ h9 => h9) rfl dX5_markOfTwice_2 ?_
  refine lv_ldc2 (v := (1000 : Int64)) hx hb hown (hts (.constantLong RX5 266 (1000)) (List.mem_of_getElem? (i := 2) rfl)) dX5_markOfTwice_5 ?_
  refine lv_ladd hx hb dX5_markOfTwice_8 ?_
  refine lv_topl (fun tq8 et8 => ?_)
  rw [← et8] at h
  refine va_put (D := G) (ci := 5) (v := .long tq8) (ty := .long) (C := RX5) (T := TX5) (N := 11) hx hb hts fi_X5_markOfTwice_X5 tyX5 tyX5_ok nmX5 hown hEN.1 hP hD hS 0 rfl rfl 10 (by decide) (hts (.fieldLink RX5 65 "HourWell" "traced" "J") (List.mem_of_getElem? (i := 1) rfl)) (fun _ h9 => h9) rfl (by decide +kernel) rfl rfl (Nat.le_of_ble_eq_true rfl) dX5_markOfTwice_9 (fun H locs hP hD hS => ?_)
  have hP : va_P G vwCl [oX5 aX aW aD aR aS aI aJ aY aC vX tq8, oX4 aW vW, ai cI (aW 11) 6 (vW 11), ai cI (aW 12) 6 (vW 12)] H := hP
  have hD : va_D A [oX5 aX aW aD aR aS aI aJ aY aC vX tq8, oX4 aW vW, ai cI (aW 11) 6 (vW 11), ai cI (aW 12) 6 (vW 12)] := hD
  refine lv_aload_n hx hb dX5_markOfTwice_12 rfl (lv_at hl 0 rfl) ?_
  refine lv_iload_n hx hb dX5_markOfTwice_13 rfl (lv_at hl 1 rfl) ?_
  obtain ⟨o14, ho14, h⟩ := bnd_some h
  refine call_VJ (wr := []) (As := [.int x1]) (rest := []) ⟨hx, hb, hml, hown, hts⟩ (c_X5_markOfLending l G cI cZ aX aR aY aC aW aD aS aI aJ vX vW tq8 x1 o14 ho14) (cwV 1 hts gX5_markOfTwice_X5_markOfLending rfl rfl rfl hdV_X5_markOfLending ⟨Nat.le_of_ble_eq_true rfl, Nat.le_of_ble_eq_true rfl⟩) hEN hA hP hD hS [0, 1, 2, 3] [] rfl (by decide) rfl (by decide) (by decide) 0 rfl rfl rfl hl.1 rfl (Nat.le_of_ble_eq_true rfl) dX5_markOfTwice_14 ⟨Nat.le_of_ble_eq_true rfl, Nat.le_of_ble_eq_true rfl⟩ (fun H locs hP hD hS => ?_)
  have hP : va_P G vwCl [oX5 aX aW aD aR aS aI aJ aY aC vX o14.2, oX4 aW vW, ai cI (aW 11) 6 (vW 11), ai cI (aW 12) 6 (vW 12)] H := hP
  have hD : va_D A [oX5 aX aW aD aR aS aI aJ aY aC vX o14.2, oX4 aW vW, ai cI (aW 11) 6 (vW 11), ai cI (aW 12) 6 (vW 12)] := hD
  refine lv_iconst (v := (2 : Int32)) hx hb dX5_markOfTwice_17 k_iconst_2 ?_
  refine lv_imul hx hb dX5_markOfTwice_18 ?_
  have hres := Option.some.inj h
  subst hres
  exact hRet 19 _ _ _ hP hD hS dX5_markOfTwice_19
abbrev rm_X5_mark : Room := { frames := 5, cells := 0, slots := 0, locals := 105 }
theorem fi_X5_mark_X5 : ∀ w ∈ wsX50, w ∈ wsX5_mark := fun _ h => List.mem_cons_of_mem _ (List.mem_append_left _ (List.mem_append_left _ (List.mem_append_right _ h)))
theorem fi_X5_mark_X4 : ∀ w ∈ wsX40, w ∈ wsX5_mark := fun _ h => List.mem_cons_of_mem _ (List.mem_append_left _ (List.mem_append_right _ h))
theorem fi_X5_mark_X2 : ∀ w ∈ wsX20, w ∈ wsX5_mark := fun _ h => List.mem_cons_of_mem _ (List.mem_append_right _ h)
theorem hdV_X5_mark : yX5_mark.cls = RX5 ∧ yX5_mark.cls ≠ "java/lang/invoke/MethodHandle" ∧ yX5_mark.cls ≠ "java/lang/invoke/VarHandle" ∧ (parseMethodDescriptor yX5_mark.desc).map (fun d => d.parameters.length) = some 2 := by decide +kernel
set_option maxRecDepth 100000 in
set_option maxHeartbeats 4000000 in
theorem c_X5_mark (l : Launch) (G : va_G) (cI cZ : ClassId) (aX : Nat → Nat) (aR : Nat → Nat) (aY : Nat → Nat) (aC : Nat → Nat) (aW : Nat → Nat) (aD : Nat → Nat) (aS : Nat → Nat) (aI : Nat → Nat) (aJ : Nat → Nat) (vX : Ob) (vW : Ob) (vS : Ob) (vT : Int64) (x1 : Int32) (x2 : Int32) (res : Int32 × Int64) (h : m_X5_mark vX vW vS vT x1 x2 = some res) : Ct l yX5_mark wsX5_mark rm_X5_mark G cI cZ [.ref (aX 0), .int x1, .int x2] [oX5 aX aW aD aR aS aI aJ aY aC vX vT, oX4 aW vW, ai cI (aW 11) 6 (vW 11), ai cI (aW 12) 6 (vW 12), ai cI (aW 13) 6 (vW 13), oX2 aS vS] (some (.int res.1)) [oX5 aX aW aD aR aS aI aJ aY aC vX res.2, oX4 aW vW, ai cI (aW 11) 6 (vW 11), ai cI (aW 12) 6 (vW 12), ai cI (aW 13) 6 (vW 13), oX2 aS vS] := by
  refine Ct.of_i (maxL := 3) (by decide) rfl (Nat.le_of_ble_eq_true rfl) ?_
  intro p e s m below meth c args hx hb hml hown hts A hA hEN hP hD hS Q hRet ls hl
  have hown : s.vm.findClass RX5 = some m.cls := hown
  have hl : lv_has ls 3 [(0, .ref (aX 0)), (1, .int x1), (2, .int x2)] := hl
  unfold m_X5_mark at h
  refine lv_aload_n hx hb dX5_mark_0 rfl (lv_at hl 0 rfl) ?_
  refine va_get (D := G) (ci := 5) (v := .ref (aW 0)) (C := RX5) (T := TX5) (N := 11) hx hb hts fi_X5_mark_X5 hown hEN.1 hP 0 rfl rfl 2 (by decide) (hts (.fieldLink RX5 20 "HourWell" "world" "LHourWell$World;") (List.mem_of_getElem? (i := 1) rfl)) (fun _ h9 => h9) rfl dX5_mark_1 ?_
  refine lv_iload_n hx hb dX5_mark_4 rfl (lv_at hl 2 rfl) ?_
  obtain ⟨o5, ho5, h⟩ := bnd_some h
  refine call_V0 (As := [.int x2]) (rest := []) ⟨hx, hb, hml, hown, hts⟩ (c_X4_hasHost l G cI cZ aW vW x2 o5 ho5) (cwV 1 hts gX5_mark_X4_hasHost rfl rfl rfl hdV_X4_hasHost ⟨Nat.le_of_ble_eq_true rfl, Nat.le_of_ble_eq_true rfl⟩) hEN hA hP hD hS [1] rfl (by decide) 1 rfl rfl rfl hl.1 rfl (Nat.le_of_ble_eq_true rfl) dX5_mark_5 ⟨Nat.le_of_ble_eq_true rfl, Nat.le_of_ble_eq_true rfl⟩ (fun H locs hP hS => ?_)
  refine lv_if_ne (tgt := 14) hx hb dX5_mark_8 (by decide) (fun c8 => ?_) (fun c8 => ?_)
  · have h := (if_neg c8).symm.trans h
    refine lv_iload_n hx hb dX5_mark_14 rfl (lv_at hl 1 rfl) ?_
    by_cases c15_0 : x1 = (0 : Int32)
    · have h := (if_pos c15_0).symm.trans h
      refine lv_tableIn (off := 37) (tgt := 52) hx hb dX5_mark_15 (by rw [c15_0]; decide) (by rw [c15_0]; decide) (by rw [c15_0]; decide) (by decide) ?_
      refine lv_aload_n hx hb dX5_mark_52 rfl (lv_at hl 0 rfl) ?_
      refine lv_iload_n hx hb dX5_mark_53 rfl (lv_at hl 2 rfl) ?_
      obtain ⟨o54, ho54, h⟩ := bnd_some h
      refine call_VJ (wr := [ai cI (aW 11) 6 (vW 11), ai cI (aW 13) 6 (vW 13), oX2 aS vS]) (As := [.int x2]) (rest := []) ⟨hx, hb, hml, hown, hts⟩ (c_X5_markOfHost l G cI cZ aX aR aY aC aW aD aS aI aJ vX vW vT x2 o54 ho54) (cwV 1 hts gX5_mark_X5_markOfHost rfl rfl rfl hdV_X5_markOfHost ⟨Nat.le_of_ble_eq_true rfl, Nat.le_of_ble_eq_true rfl⟩) hEN hA hP hD hS [0, 1, 3] [2, 4, 5] rfl (by decide) rfl (by decide) (by decide) 0 rfl rfl rfl hl.1 rfl (Nat.le_of_ble_eq_true rfl) dX5_mark_54 ⟨Nat.le_of_ble_eq_true rfl, Nat.le_of_ble_eq_true rfl⟩ (fun H locs hP hD hS => ?_)
      have hP : va_P G vwCl [ai cI (aW 11) 6 (vW 11), ai cI (aW 13) 6 (vW 13), oX2 aS vS, oX5 aX aW aD aR aS aI aJ aY aC vX o54.2, oX4 aW vW, ai cI (aW 12) 6 (vW 12)] H := hP
      have hD : va_D A [ai cI (aW 11) 6 (vW 11), ai cI (aW 13) 6 (vW 13), oX2 aS vS, oX5 aX aW aD aR aS aI aJ aY aC vX o54.2, oX4 aW vW, ai cI (aW 12) 6 (vW 12)] := hD
      have hres := Option.some.inj h
      subst hres
      exact hRet 57 _ _ _ (hP.sub [3, 4, 0, 5, 1, 2] rfl) (hD.sub [3, 4, 0, 5, 1, 2] (by decide) rfl) hS dX5_mark_57
    · have h := (if_neg c15_0).symm.trans h
      by_cases c15_1 : x1 = (1 : Int32)
      · have h := (if_pos c15_1).symm.trans h
        refine lv_tableIn (off := 43) (tgt := 58) hx hb dX5_mark_15 (by rw [c15_1]; decide) (by rw [c15_1]; decide) (by rw [c15_1]; decide) (by decide) ?_
        refine lv_aload_n hx hb dX5_mark_58 rfl (lv_at hl 0 rfl) ?_
        refine lv_iload_n hx hb dX5_mark_59 rfl (lv_at hl 2 rfl) ?_
        obtain ⟨o60, ho60, h⟩ := bnd_some h
        refine call_VJ (wr := [ai cI (aW 13) 6 (vW 13), oX2 aS vS]) (As := [.int x2]) (rest := []) ⟨hx, hb, hml, hown, hts⟩ (c_X5_markOfLending l G cI cZ aX aR aY aC aW aD aS aI aJ vX vW vT x2 o60 ho60) (cwV 1 hts gX5_mark_X5_markOfLending rfl rfl rfl hdV_X5_markOfLending ⟨Nat.le_of_ble_eq_true rfl, Nat.le_of_ble_eq_true rfl⟩) hEN hA hP hD hS [0, 1, 2, 3] [4, 5] rfl (by decide) rfl (by decide) (by decide) 0 rfl rfl rfl hl.1 rfl (Nat.le_of_ble_eq_true rfl) dX5_mark_60 ⟨Nat.le_of_ble_eq_true rfl, Nat.le_of_ble_eq_true rfl⟩ (fun H locs hP hD hS => ?_)
        have hP : va_P G vwCl [ai cI (aW 13) 6 (vW 13), oX2 aS vS, oX5 aX aW aD aR aS aI aJ aY aC vX o60.2, oX4 aW vW, ai cI (aW 11) 6 (vW 11), ai cI (aW 12) 6 (vW 12)] H := hP
        have hD : va_D A [ai cI (aW 13) 6 (vW 13), oX2 aS vS, oX5 aX aW aD aR aS aI aJ aY aC vX o60.2, oX4 aW vW, ai cI (aW 11) 6 (vW 11), ai cI (aW 12) 6 (vW 12)] := hD
        have hres := Option.some.inj h
        subst hres
        exact hRet 63 _ _ _ (hP.sub [2, 3, 4, 5, 0, 1] rfl) (hD.sub [2, 3, 4, 5, 0, 1] (by decide) rfl) hS dX5_mark_63
      · have h := (if_neg c15_1).symm.trans h
        by_cases c15_2 : x1 = (2 : Int32)
        · have h := (if_pos c15_2).symm.trans h
          refine lv_tableIn (off := 49) (tgt := 64) hx hb dX5_mark_15 (by rw [c15_2]; decide) (by rw [c15_2]; decide) (by rw [c15_2]; decide) (by decide) ?_
          refine lv_aload_n hx hb dX5_mark_64 rfl (lv_at hl 0 rfl) ?_
          refine lv_iload_n hx hb dX5_mark_65 rfl (lv_at hl 2 rfl) ?_
          obtain ⟨o66, ho66, h⟩ := bnd_some h
          refine call_VJ (wr := [ai cI (aW 11) 6 (vW 11), oX2 aS vS]) (As := [.int x2]) (rest := []) ⟨hx, hb, hml, hown, hts⟩ (c_X5_markOfOffended l G cI cZ aX aR aY aC aW aD aS aI aJ vX vW vT x2 o66 ho66) (cwV 1 hts gX5_mark_X5_markOfOffended rfl rfl rfl hdV_X5_markOfOffended ⟨Nat.le_of_ble_eq_true rfl, Nat.le_of_ble_eq_true rfl⟩) hEN hA hP hD hS [0, 1, 3, 4] [2, 5] rfl (by decide) rfl (by decide) (by decide) 0 rfl rfl rfl hl.1 rfl (Nat.le_of_ble_eq_true rfl) dX5_mark_66 ⟨Nat.le_of_ble_eq_true rfl, Nat.le_of_ble_eq_true rfl⟩ (fun H locs hP hD hS => ?_)
          have hP : va_P G vwCl [ai cI (aW 11) 6 (vW 11), oX2 aS vS, oX5 aX aW aD aR aS aI aJ aY aC vX o66.2, oX4 aW vW, ai cI (aW 12) 6 (vW 12), ai cI (aW 13) 6 (vW 13)] H := hP
          have hD : va_D A [ai cI (aW 11) 6 (vW 11), oX2 aS vS, oX5 aX aW aD aR aS aI aJ aY aC vX o66.2, oX4 aW vW, ai cI (aW 12) 6 (vW 12), ai cI (aW 13) 6 (vW 13)] := hD
          have hres := Option.some.inj h
          subst hres
          exact hRet 69 _ _ _ (hP.sub [2, 3, 0, 4, 5, 1] rfl) (hD.sub [2, 3, 0, 4, 5, 1] (by decide) rfl) hS dX5_mark_69
        · have h := (if_neg c15_2).symm.trans h
          by_cases c15_3 : x1 = (3 : Int32)
          · have h := (if_pos c15_3).symm.trans h
            refine lv_tableIn (off := 55) (tgt := 70) hx hb dX5_mark_15 (by rw [c15_3]; decide) (by rw [c15_3]; decide) (by rw [c15_3]; decide) (by decide) ?_
            refine lv_aload_n hx hb dX5_mark_70 rfl (lv_at hl 0 rfl) ?_
            refine lv_iload_n hx hb dX5_mark_71 rfl (lv_at hl 2 rfl) ?_
            obtain ⟨o72, ho72, h⟩ := bnd_some h
            refine call_VJ (wr := [ai cI (aW 13) 6 (vW 13), oX2 aS vS]) (As := [.int x2]) (rest := []) ⟨hx, hb, hml, hown, hts⟩ (c_X5_markOfTwice l G cI cZ aX aR aY aC aW aD aS aI aJ vX vW vT x2 o72 ho72) (cwV 1 hts gX5_mark_X5_markOfTwice rfl rfl rfl hdV_X5_markOfTwice ⟨Nat.le_of_ble_eq_true rfl, Nat.le_of_ble_eq_true rfl⟩) hEN hA hP hD hS [0, 1, 2, 3] [4, 5] rfl (by decide) rfl (by decide) (by decide) 0 rfl rfl rfl hl.1 rfl (Nat.le_of_ble_eq_true rfl) dX5_mark_72 ⟨Nat.le_of_ble_eq_true rfl, Nat.le_of_ble_eq_true rfl⟩ (fun H locs hP hD hS => ?_)
            have hP : va_P G vwCl [ai cI (aW 13) 6 (vW 13), oX2 aS vS, oX5 aX aW aD aR aS aI aJ aY aC vX o72.2, oX4 aW vW, ai cI (aW 11) 6 (vW 11), ai cI (aW 12) 6 (vW 12)] H := hP
            have hD : va_D A [ai cI (aW 13) 6 (vW 13), oX2 aS vS, oX5 aX aW aD aR aS aI aJ aY aC vX o72.2, oX4 aW vW, ai cI (aW 11) 6 (vW 11), ai cI (aW 12) 6 (vW 12)] := hD
            have hres := Option.some.inj h
            subst hres
            exact hRet 75 _ _ _ (hP.sub [2, 3, 4, 5, 0, 1] rfl) (hD.sub [2, 3, 4, 5, 0, 1] (by decide) rfl) hS dX5_mark_75
          · have h := (if_neg c15_3).symm.trans h
            by_cases c15_4 : x1 = (4 : Int32)
            · have h := (if_pos c15_4).symm.trans h
              refine lv_tableIn (off := 61) (tgt := 76) hx hb dX5_mark_15 (by rw [c15_4]; decide) (by rw [c15_4]; decide) (by rw [c15_4]; decide) (by decide) ?_
              refine lv_aload_n hx hb dX5_mark_76 rfl (lv_at hl 0 rfl) ?_
              refine lv_iload_n hx hb dX5_mark_77 rfl (lv_at hl 2 rfl) ?_
              obtain ⟨o78, ho78, h⟩ := bnd_some h
              refine call_VJ (wr := [ai cI (aW 11) 6 (vW 11)]) (As := [.int x2]) (rest := []) ⟨hx, hb, hml, hown, hts⟩ (c_X5_markOfFalse l G cI cZ aX aR aY aC aW aD aS aI aJ vX vW vS vT x2 o78 ho78) (cwV 1 hts gX5_mark_X5_markOfFalse rfl rfl rfl hdV_X5_markOfFalse ⟨Nat.le_of_ble_eq_true rfl, Nat.le_of_ble_eq_true rfl⟩) hEN hA hP hD hS [0, 1, 3, 4, 5] [2] rfl (by decide) rfl (by decide) (by decide) 0 rfl rfl rfl hl.1 rfl (Nat.le_of_ble_eq_true rfl) dX5_mark_78 ⟨Nat.le_of_ble_eq_true rfl, Nat.le_of_ble_eq_true rfl⟩ (fun H locs hP hD hS => ?_)
              have hP : va_P G vwCl [ai cI (aW 11) 6 (vW 11), oX5 aX aW aD aR aS aI aJ aY aC vX o78.2, oX4 aW vW, ai cI (aW 12) 6 (vW 12), ai cI (aW 13) 6 (vW 13), oX2 aS vS] H := hP
              have hD : va_D A [ai cI (aW 11) 6 (vW 11), oX5 aX aW aD aR aS aI aJ aY aC vX o78.2, oX4 aW vW, ai cI (aW 12) 6 (vW 12), ai cI (aW 13) 6 (vW 13), oX2 aS vS] := hD
              have hres := Option.some.inj h
              subst hres
              exact hRet 81 _ _ _ (hP.sub [1, 2, 0, 3, 4, 5] rfl) (hD.sub [1, 2, 0, 3, 4, 5] (by decide) rfl) hS dX5_mark_81
            · have h := (if_neg c15_4).symm.trans h
              by_cases c15_5 : x1 = (5 : Int32)
              · have h := (if_pos c15_5).symm.trans h
                refine lv_tableIn (off := 67) (tgt := 82) hx hb dX5_mark_15 (by rw [c15_5]; decide) (by rw [c15_5]; decide) (by rw [c15_5]; decide) (by decide) ?_
                refine lv_aload_n hx hb dX5_mark_82 rfl (lv_at hl 0 rfl) ?_
                refine lv_iload_n hx hb dX5_mark_83 rfl (lv_at hl 2 rfl) ?_
                obtain ⟨o84, ho84, h⟩ := bnd_some h
                refine call_VJ (wr := [ai cI (aW 11) 6 (vW 11), ai cI (aW 13) 6 (vW 13)]) (As := [.int x2]) (rest := []) ⟨hx, hb, hml, hown, hts⟩ (c_X5_markOfDwarf l G cI cZ aX aR aY aC aW aD aS aI aJ vX vW vS vT x2 o84 ho84) (cwV 1 hts gX5_mark_X5_markOfDwarf rfl rfl rfl hdV_X5_markOfDwarf ⟨Nat.le_of_ble_eq_true rfl, Nat.le_of_ble_eq_true rfl⟩) hEN hA hP hD hS [0, 1, 3, 5] [2, 4] rfl (by decide) rfl (by decide) (by decide) 0 rfl rfl rfl hl.1 rfl (Nat.le_of_ble_eq_true rfl) dX5_mark_84 ⟨Nat.le_of_ble_eq_true rfl, Nat.le_of_ble_eq_true rfl⟩ (fun H locs hP hD hS => ?_)
                have hP : va_P G vwCl [ai cI (aW 11) 6 (vW 11), ai cI (aW 13) 6 (vW 13), oX5 aX aW aD aR aS aI aJ aY aC vX o84.2, oX4 aW vW, ai cI (aW 12) 6 (vW 12), oX2 aS vS] H := hP
                have hD : va_D A [ai cI (aW 11) 6 (vW 11), ai cI (aW 13) 6 (vW 13), oX5 aX aW aD aR aS aI aJ aY aC vX o84.2, oX4 aW vW, ai cI (aW 12) 6 (vW 12), oX2 aS vS] := hD
                have hres := Option.some.inj h
                subst hres
                exact hRet 87 _ _ _ (hP.sub [2, 3, 0, 4, 1, 5] rfl) (hD.sub [2, 3, 0, 4, 1, 5] (by decide) rfl) hS dX5_mark_87
              · have h := (if_neg c15_5).symm.trans h
                refine lv_tableOut (tgt := 88) hx hb dX5_mark_15 (by have e0 := lv_neT c15_0 (a := 0) (by decide); have e1 := lv_neT c15_1 (a := 1) (by decide); have e2 := lv_neT c15_2 (a := 2) (by decide); have e3 := lv_neT c15_3 (a := 3) (by decide); have e4 := lv_neT c15_4 (a := 4) (by decide); have e5 := lv_neT c15_5 (a := 5) (by decide);  omega) (by decide) ?_
                refine lv_ldc (v := (-1000000 : Int32)) hx hb hown (hts (.constant RX5 243 (-1000000)) (List.mem_of_getElem? (i := 2) rfl)) dX5_mark_88 ?_
                have hres := Option.some.inj h
                subst hres
                exact hRet 90 _ _ _ hP hD hS dX5_mark_90
  · have h := (if_pos c8).symm.trans h
    refine lv_ldc (v := (-1000000 : Int32)) hx hb hown (hts (.constant RX5 243 (-1000000)) (List.mem_of_getElem? (i := 2) rfl)) dX5_mark_11 ?_
    have hres := Option.some.inj h
    subst hres
    exact hRet 13 _ _ _ hP hD hS dX5_mark_13
abbrev rm_X5_imageOf : Room := { frames := 0, cells := 0, slots := 0, locals := 0 }
theorem fi_X5_imageOf_X5 : ∀ w ∈ wsX50, w ∈ wsX5_imageOf := fun _ h => List.mem_cons_of_mem _ (List.mem_append_right _ h)
theorem hdV_X5_imageOf : yX5_imageOf.cls = RX5 ∧ yX5_imageOf.cls ≠ "java/lang/invoke/MethodHandle" ∧ yX5_imageOf.cls ≠ "java/lang/invoke/VarHandle" ∧ (parseMethodDescriptor yX5_imageOf.desc).map (fun d => d.parameters.length) = some 1 := by decide +kernel
set_option maxRecDepth 100000 in
set_option maxHeartbeats 4000000 in
theorem c_X5_imageOf (l : Launch) (G : va_G) (cI cZ : ClassId) (aX : Nat → Nat) (aR : Nat → Nat) (aY : Nat → Nat) (aC : Nat → Nat) (aW : Nat → Nat) (aD : Nat → Nat) (aS : Nat → Nat) (aI : Nat → Nat) (aJ : Nat → Nat) (vT : Int64) (vX : Ob) (x1 : Int32) (res : Int32) (h : m_X5_imageOf vX x1 = some res) : Ct l yX5_imageOf wsX5_imageOf rm_X5_imageOf G cI cZ [.ref (aX 0), .int x1] [oX5 aX aW aD aR aS aI aJ aY aC vX vT] (some (.ref (if res = 0 then aI 0 else aJ 0))) [oX5 aX aW aD aR aS aI aJ aY aC vX vT] := by
  refine Ct.of_a (maxL := 2) (by decide) rfl (Nat.le_of_ble_eq_true rfl) ?_
  intro p e s m below meth c args hx hb hml hown hts A hA hEN hP hD hS Q hRet ls hl
  have hown : s.vm.findClass RX5 = some m.cls := hown
  have hl : lv_has ls 2 [(0, .ref (aX 0)), (1, .int x1)] := hl
  unfold m_X5_imageOf at h
  refine lv_iload_n hx hb dX5_imageOf_0 rfl (lv_at hl 1 rfl) ?_
  refine lv_if_ne (tgt := 11) hx hb dX5_imageOf_1 (by decide) (fun c1 => ?_) (fun c1 => ?_)
  · have h := (if_neg c1).symm.trans h
    refine lv_aload_n hx hb dX5_imageOf_11 rfl (lv_at hl 0 rfl) ?_
    refine va_get (D := G) (ci := 5) (v := .ref (aJ 0)) (C := RX5) (T := TX5) (N := 11) hx hb hts fi_X5_imageOf_X5 hown hEN.1 hP 0 rfl rfl 7 (by decide) (hts (.fieldLink RX5 46 "HourWell" "secondImage" "LHourWell$Son;") (List.mem_of_getElem? (i := 2) rfl)) (fun _ h9 => h9) rfl dX5_imageOf_12 ?_
    have hres := Option.some.inj h
    subst hres
    exact hRet 15 _ _ _ hP hD hS dX5_imageOf_15
  · have h := (if_pos c1).symm.trans h
    refine lv_aload_n hx hb dX5_imageOf_4 rfl (lv_at hl 0 rfl) ?_
    refine va_get (D := G) (ci := 5) (v := .ref (aI 0)) (C := RX5) (T := TX5) (N := 11) hx hb hts fi_X5_imageOf_X5 hown hEN.1 hP 0 rfl rfl 6 (by decide) (hts (.fieldLink RX5 43 "HourWell" "firstImage" "LHourWell$Son;") (List.mem_of_getElem? (i := 1) rfl)) (fun _ h9 => h9) rfl dX5_imageOf_5 ?_
    refine lv_goto (tgt := 15) hx hb dX5_imageOf_8 (by decide) ?_
    have hres := Option.some.inj h
    subst hres
    exact hRet 15 _ _ _ hP hD hS dX5_imageOf_15
abbrev rm_X5_keep : Room := { frames := 2, cells := 0, slots := 0, locals := 47 }
theorem fi_X5_keep_X5 : ∀ w ∈ wsX50, w ∈ wsX5_keep := fun _ h => List.mem_cons_of_mem _ (List.mem_append_left _ (List.mem_append_right _ h))
theorem fi_X5_keep_X2 : ∀ w ∈ wsX20, w ∈ wsX5_keep := fun _ h => List.mem_cons_of_mem _ (List.mem_append_right _ h)
theorem hdV_X5_keep : yX5_keep.cls = RX5 ∧ yX5_keep.cls ≠ "java/lang/invoke/MethodHandle" ∧ yX5_keep.cls ≠ "java/lang/invoke/VarHandle" ∧ (parseMethodDescriptor yX5_keep.desc).map (fun d => d.parameters.length) = some 1 := by decide +kernel
set_option maxRecDepth 100000 in
set_option maxHeartbeats 4000000 in
theorem c_X5_keep (l : Launch) (G : va_G) (cI cZ : ClassId) (aX : Nat → Nat) (aR : Nat → Nat) (aY : Nat → Nat) (aC : Nat → Nat) (aW : Nat → Nat) (aD : Nat → Nat) (aS : Nat → Nat) (aI : Nat → Nat) (aJ : Nat → Nat) (vT : Int64) (vX : Ob) (vS : Ob) (vI : Ob) (vJ : Ob) (x1 : Int32) (res : Int32 × Ob × Ob) (h : m_X5_keep vX vS vI vJ x1 = some res) : Ct l yX5_keep wsX5_keep rm_X5_keep G cI cZ [.ref (aX 0), .int x1] [oX5 aX aW aD aR aS aI aJ aY aC vX vT, oX2 aS vS, ai cI (aS 6) 12 (vS 6), ai cI (aS 7) 12 (vS 7), ai cI (aS 8) 12 (vS 8), oX2 aI vI, ai cI (aI 6) 12 (vI 6), ai cI (aI 7) 12 (vI 7), ai cI (aI 8) 12 (vI 8), oX2 aJ vJ, ai cI (aJ 6) 12 (vJ 6), ai cI (aJ 7) 12 (vJ 7), ai cI (aJ 8) 12 (vJ 8)] (some (.int res.1)) [oX5 aX aW aD aR aS aI aJ aY aC vX vT, oX2 aS vS, ai cI (aS 6) 12 (vS 6), ai cI (aS 7) 12 (vS 7), ai cI (aS 8) 12 (vS 8), oX2 aI res.2.1, ai cI (aI 6) 12 (res.2.1 6), ai cI (aI 7) 12 (res.2.1 7), ai cI (aI 8) 12 (res.2.1 8), oX2 aJ res.2.2, ai cI (aJ 6) 12 (res.2.2 6), ai cI (aJ 7) 12 (res.2.2 7), ai cI (aJ 8) 12 (res.2.2 8)] := by
  refine Ct.of_i (maxL := 3) (by decide) rfl (Nat.le_of_ble_eq_true rfl) ?_
  intro p e s m below meth c args hx hb hml hown hts A hA hEN hP hD hS Q hRet ls hl
  have hown : s.vm.findClass RX5 = some m.cls := hown
  have hl : lv_has ls 3 [(0, .ref (aX 0)), (1, .int x1)] := hl
  unfold m_X5_keep at h
  refine lv_iload_n hx hb dX5_keep_0 rfl (lv_at hl 1 rfl) ?_
  refine lv_iconst (v := (0 : Int32)) hx hb dX5_keep_1 k_iconst_0 ?_
  refine lv_iconst (v := (1 : Int32)) hx hb dX5_keep_2 k_iconst_1 ?_
  obtain ⟨o3, ho3, h⟩ := bnd_some h
  refine call_S0 (As := [.int x1, .int (0 : Int32), .int (1 : Int32)]) (rest := []) ⟨hx, hb, hml, hown, hts⟩ (c_X5_isWithin l G cI cZ  x1 (0 : Int32) (1 : Int32) o3 ho3) (va_cwS 3 hts gX5_keep_X5_isWithin rfl rfl rfl hdS_X5_isWithin ⟨Nat.le_of_ble_eq_true rfl, Nat.le_of_ble_eq_true rfl⟩) hEN hA hP hD hS [] rfl (by decide) rfl hl.1 rfl (Nat.le_of_ble_eq_true rfl) dX5_keep_3 ⟨Nat.le_of_ble_eq_true rfl, Nat.le_of_ble_eq_true rfl⟩ (fun H locs hP hS => ?_)
  refine lv_if_ne (tgt := 11) hx hb dX5_keep_6 (by decide) (fun c6 => ?_) (fun c6 => ?_)
  · have h := (if_neg c6).symm.trans h
    refine lv_aload_n hx hb dX5_keep_11 rfl (lv_at hl 0 rfl) ?_
    refine lv_iload_n hx hb dX5_keep_12 rfl (lv_at hl 1 rfl) ?_
    obtain ⟨o13, ho13, h⟩ := bnd_some h
    refine call_V0 (As := [.int x1]) (rest := []) ⟨hx, hb, hml, hown, hts⟩ (c_X5_imageOf l G cI cZ aX aR aY aC aW aD aS aI aJ vT vX x1 o13 ho13) (cwV 1 hts gX5_keep_X5_imageOf rfl rfl rfl hdV_X5_imageOf ⟨Nat.le_of_ble_eq_true rfl, Nat.le_of_ble_eq_true rfl⟩) hEN hA hP hD hS [0] rfl (by decide) 0 rfl rfl rfl hl.1 rfl (Nat.le_of_ble_eq_true rfl) dX5_keep_13 ⟨Nat.le_of_ble_eq_true rfl, Nat.le_of_ble_eq_true rfl⟩ (fun H locs hP hS => ?_)
    by_cases c13 : o13 = 0
    · have h := (if_pos c13).symm.trans h
      rw [if_pos c13]
      refine lv_astore_n (lv' := [(2, .ref (aI 0)), (0, .ref (aX 0)), (1, .int x1)]) hx hb dX5_keep_16 rfl hl (by decide) rfl (fun ls hl => ?_)
      refine lv_aload_n hx hb dX5_keep_17 rfl (lv_at hl 0 rfl) ?_
      refine lv_aload_n hx hb dX5_keep_18 rfl (lv_at hl 1 rfl) ?_
      refine va_get (D := G) (ci := 5) (v := .ref (aS 0)) (C := RX5) (T := TX5) (N := 11) hx hb hts fi_X5_keep_X5 hown hEN.1 hP 0 rfl rfl 5 (by decide) (hts (.fieldLink RX5 39 "HourWell" "son" "LHourWell$Son;") (List.mem_of_getElem? (i := 1) rfl)) (fun _ h9 => h9) rfl dX5_keep_19 ?_
      obtain ⟨o22, ho22, h⟩ := bnd_some h
      refine call_VJ (wr := [oX5 aX aW aD aR aS aI aJ aY aC vX vT, oX2 aJ vJ, ai cI (aJ 6) 12 (vJ 6), ai cI (aJ 7) 12 (vJ 7), ai cI (aJ 8) 12 (vJ 8)]) (As := [.ref (aS 0)]) (rest := []) ⟨hx, hb, hml, hown, hts⟩ (c_X2_becomeLike l G cI cZ aI aS vI vS o22 ho22) (cwV 1 hts gX5_keep_X2_becomeLike rfl rfl rfl hdV_X2_becomeLike ⟨Nat.le_of_ble_eq_true rfl, Nat.le_of_ble_eq_true rfl⟩) hEN hA hP hD hS [5, 6, 7, 8, 1, 2, 3, 4] [0, 9, 10, 11, 12] rfl (by decide) rfl (by decide) (by decide) 5 rfl rfl rfl hl.1 rfl (Nat.le_of_ble_eq_true rfl) dX5_keep_22 ⟨Nat.le_of_ble_eq_true rfl, Nat.le_of_ble_eq_true rfl⟩ (fun H locs hP hD hS => ?_)
      have hP : va_P G vwCl [oX5 aX aW aD aR aS aI aJ aY aC vX vT, oX2 aJ vJ, ai cI (aJ 6) 12 (vJ 6), ai cI (aJ 7) 12 (vJ 7), ai cI (aJ 8) 12 (vJ 8), oX2 aI o22, ai cI (aI 6) 12 (o22 6), ai cI (aI 7) 12 (o22 7), ai cI (aI 8) 12 (o22 8), oX2 aS vS, ai cI (aS 6) 12 (vS 6), ai cI (aS 7) 12 (vS 7), ai cI (aS 8) 12 (vS 8)] H := hP
      have hD : va_D A [oX5 aX aW aD aR aS aI aJ aY aC vX vT, oX2 aJ vJ, ai cI (aJ 6) 12 (vJ 6), ai cI (aJ 7) 12 (vJ 7), ai cI (aJ 8) 12 (vJ 8), oX2 aI o22, ai cI (aI 6) 12 (o22 6), ai cI (aI 7) 12 (o22 7), ai cI (aI 8) 12 (o22 8), oX2 aS vS, ai cI (aS 6) 12 (vS 6), ai cI (aS 7) 12 (vS 7), ai cI (aS 8) 12 (vS 8)] := hD
      refine lv_aload_n hx hb dX5_keep_25 rfl (lv_at hl 0 rfl) ?_
      refine lv_iconst (v := (1 : Int32)) hx hb dX5_keep_26 k_iconst_1 ?_
      refine va_put (D := G) (ci := 2) (v := .int (1 : Int32)) (ty := .boolean) (C := RX2) (T := TX2) (N := 8) hx hb hts fi_X5_keep_X2 tyX2 tyX2_ok nmX2 hown hEN.1 hP hD hS 5 rfl rfl 4 (by decide) (hts (.fieldLink RX5 87 "HourWell$Son" "isKept" "Z") (List.mem_of_getElem? (i := 2) rfl)) (fun _ h9 => h9) rfl (by decide +kernel) rfl rfl (Nat.le_of_ble_eq_true rfl) dX5_keep_27 (fun H locs hP hD hS => ?_)
      have hP : va_P G vwCl [oX5 aX aW aD aR aS aI aJ aY aC vX vT, oX2 aJ vJ, ai cI (aJ 6) 12 (vJ 6), ai cI (aJ 7) 12 (vJ 7), ai cI (aJ 8) 12 (vJ 8), oX2 aI (st o22 0 4 (1 : Int32)), ai cI (aI 6) 12 (o22 6), ai cI (aI 7) 12 (o22 7), ai cI (aI 8) 12 (o22 8), oX2 aS vS, ai cI (aS 6) 12 (vS 6), ai cI (aS 7) 12 (vS 7), ai cI (aS 8) 12 (vS 8)] H := hP
      have hD : va_D A [oX5 aX aW aD aR aS aI aJ aY aC vX vT, oX2 aJ vJ, ai cI (aJ 6) 12 (vJ 6), ai cI (aJ 7) 12 (vJ 7), ai cI (aJ 8) 12 (vJ 8), oX2 aI (st o22 0 4 (1 : Int32)), ai cI (aI 6) 12 (o22 6), ai cI (aI 7) 12 (o22 7), ai cI (aI 8) 12 (o22 8), oX2 aS vS, ai cI (aS 6) 12 (vS 6), ai cI (aS 7) 12 (vS 7), ai cI (aS 8) 12 (vS 8)] := hD
      refine lv_aload_n hx hb dX5_keep_30 rfl (lv_at hl 1 rfl) ?_
      refine va_get (D := G) (ci := 5) (v := .ref (aS 0)) (C := RX5) (T := TX5) (N := 11) hx hb hts fi_X5_keep_X5 hown hEN.1 hP 0 rfl rfl 5 (by decide) (hts (.fieldLink RX5 39 "HourWell" "son" "LHourWell$Son;") (List.mem_of_getElem? (i := 1) rfl)) (fun _ h9 => h9) rfl dX5_keep_31 ?_
      refine va_get (D := G) (ci := 2) (v := .int (vS 0 1)) (C := RX2) (T := TX2) (N := 8) hx hb hts fi_X5_keep_X2 hown hEN.1 hP 9 rfl rfl 1 (by decide) (hts (.fieldLink RX5 144 "HourWell$Son" "hour" "I") (List.mem_of_getElem? (i := 3) rfl)) (fun _ h9 => h9) rfl dX5_keep_34 ?_
      have hres := Option.some.inj h
      subst hres
      exact hRet 37 _ _ _ (hP.sub [0, 9, 10, 11, 12, 5, 6, 7, 8, 1, 2, 3, 4] rfl) (hD.sub [0, 9, 10, 11, 12, 5, 6, 7, 8, 1, 2, 3, 4] (by decide) rfl) hS dX5_keep_37
    · have h := (if_neg c13).symm.trans h
      rw [if_neg c13]
      refine lv_astore_n (lv' := [(2, .ref (aJ 0)), (0, .ref (aX 0)), (1, .int x1)]) hx hb dX5_keep_16 rfl hl (by decide) rfl (fun ls hl => ?_)
      refine lv_aload_n hx hb dX5_keep_17 rfl (lv_at hl 0 rfl) ?_
      refine lv_aload_n hx hb dX5_keep_18 rfl (lv_at hl 1 rfl) ?_
      refine va_get (D := G) (ci := 5) (v := .ref (aS 0)) (C := RX5) (T := TX5) (N := 11) hx hb hts fi_X5_keep_X5 hown hEN.1 hP 0 rfl rfl 5 (by decide) (hts (.fieldLink RX5 39 "HourWell" "son" "LHourWell$Son;") (List.mem_of_getElem? (i := 1) rfl)) (fun _ h9 => h9) rfl dX5_keep_19 ?_
      obtain ⟨o22, ho22, h⟩ := bnd_some h
      refine call_VJ (wr := [oX5 aX aW aD aR aS aI aJ aY aC vX vT, oX2 aI vI, ai cI (aI 6) 12 (vI 6), ai cI (aI 7) 12 (vI 7), ai cI (aI 8) 12 (vI 8)]) (As := [.ref (aS 0)]) (rest := []) ⟨hx, hb, hml, hown, hts⟩ (c_X2_becomeLike l G cI cZ aJ aS vJ vS o22 ho22) (cwV 1 hts gX5_keep_X2_becomeLike rfl rfl rfl hdV_X2_becomeLike ⟨Nat.le_of_ble_eq_true rfl, Nat.le_of_ble_eq_true rfl⟩) hEN hA hP hD hS [9, 10, 11, 12, 1, 2, 3, 4] [0, 5, 6, 7, 8] rfl (by decide) rfl (by decide) (by decide) 9 rfl rfl rfl hl.1 rfl (Nat.le_of_ble_eq_true rfl) dX5_keep_22 ⟨Nat.le_of_ble_eq_true rfl, Nat.le_of_ble_eq_true rfl⟩ (fun H locs hP hD hS => ?_)
      have hP : va_P G vwCl [oX5 aX aW aD aR aS aI aJ aY aC vX vT, oX2 aI vI, ai cI (aI 6) 12 (vI 6), ai cI (aI 7) 12 (vI 7), ai cI (aI 8) 12 (vI 8), oX2 aJ o22, ai cI (aJ 6) 12 (o22 6), ai cI (aJ 7) 12 (o22 7), ai cI (aJ 8) 12 (o22 8), oX2 aS vS, ai cI (aS 6) 12 (vS 6), ai cI (aS 7) 12 (vS 7), ai cI (aS 8) 12 (vS 8)] H := hP
      have hD : va_D A [oX5 aX aW aD aR aS aI aJ aY aC vX vT, oX2 aI vI, ai cI (aI 6) 12 (vI 6), ai cI (aI 7) 12 (vI 7), ai cI (aI 8) 12 (vI 8), oX2 aJ o22, ai cI (aJ 6) 12 (o22 6), ai cI (aJ 7) 12 (o22 7), ai cI (aJ 8) 12 (o22 8), oX2 aS vS, ai cI (aS 6) 12 (vS 6), ai cI (aS 7) 12 (vS 7), ai cI (aS 8) 12 (vS 8)] := hD
      refine lv_aload_n hx hb dX5_keep_25 rfl (lv_at hl 0 rfl) ?_
      refine lv_iconst (v := (1 : Int32)) hx hb dX5_keep_26 k_iconst_1 ?_
      refine va_put (D := G) (ci := 2) (v := .int (1 : Int32)) (ty := .boolean) (C := RX2) (T := TX2) (N := 8) hx hb hts fi_X5_keep_X2 tyX2 tyX2_ok nmX2 hown hEN.1 hP hD hS 5 rfl rfl 4 (by decide) (hts (.fieldLink RX5 87 "HourWell$Son" "isKept" "Z") (List.mem_of_getElem? (i := 2) rfl)) (fun _ h9 => h9) rfl (by decide +kernel) rfl rfl (Nat.le_of_ble_eq_true rfl) dX5_keep_27 (fun H locs hP hD hS => ?_)
      have hP : va_P G vwCl [oX5 aX aW aD aR aS aI aJ aY aC vX vT, oX2 aI vI, ai cI (aI 6) 12 (vI 6), ai cI (aI 7) 12 (vI 7), ai cI (aI 8) 12 (vI 8), oX2 aJ (st o22 0 4 (1 : Int32)), ai cI (aJ 6) 12 (o22 6), ai cI (aJ 7) 12 (o22 7), ai cI (aJ 8) 12 (o22 8), oX2 aS vS, ai cI (aS 6) 12 (vS 6), ai cI (aS 7) 12 (vS 7), ai cI (aS 8) 12 (vS 8)] H := hP
      have hD : va_D A [oX5 aX aW aD aR aS aI aJ aY aC vX vT, oX2 aI vI, ai cI (aI 6) 12 (vI 6), ai cI (aI 7) 12 (vI 7), ai cI (aI 8) 12 (vI 8), oX2 aJ (st o22 0 4 (1 : Int32)), ai cI (aJ 6) 12 (o22 6), ai cI (aJ 7) 12 (o22 7), ai cI (aJ 8) 12 (o22 8), oX2 aS vS, ai cI (aS 6) 12 (vS 6), ai cI (aS 7) 12 (vS 7), ai cI (aS 8) 12 (vS 8)] := hD
      refine lv_aload_n hx hb dX5_keep_30 rfl (lv_at hl 1 rfl) ?_
      refine va_get (D := G) (ci := 5) (v := .ref (aS 0)) (C := RX5) (T := TX5) (N := 11) hx hb hts fi_X5_keep_X5 hown hEN.1 hP 0 rfl rfl 5 (by decide) (hts (.fieldLink RX5 39 "HourWell" "son" "LHourWell$Son;") (List.mem_of_getElem? (i := 1) rfl)) (fun _ h9 => h9) rfl dX5_keep_31 ?_
      refine va_get (D := G) (ci := 2) (v := .int (vS 0 1)) (C := RX2) (T := TX2) (N := 8) hx hb hts fi_X5_keep_X2 hown hEN.1 hP 9 rfl rfl 1 (by decide) (hts (.fieldLink RX5 144 "HourWell$Son" "hour" "I") (List.mem_of_getElem? (i := 3) rfl)) (fun _ h9 => h9) rfl dX5_keep_34 ?_
      have hres := Option.some.inj h
      subst hres
      exact hRet 37 _ _ _ (hP.sub [0, 9, 10, 11, 12, 1, 2, 3, 4, 5, 6, 7, 8] rfl) (hD.sub [0, 9, 10, 11, 12, 1, 2, 3, 4, 5, 6, 7, 8] (by decide) rfl) hS dX5_keep_37
  · have h := (if_pos c6).symm.trans h
    refine lv_iconst (v := (-1 : Int32)) hx hb dX5_keep_9 k_iconst_n1 ?_
    have hres := Option.some.inj h
    subst hres
    exact hRet 10 _ _ _ hP hD hS dX5_keep_10
abbrev rm_X5_back : Room := { frames := 2, cells := 0, slots := 0, locals := 47 }
theorem fi_X5_back_X2 : ∀ w ∈ wsX20, w ∈ wsX5_back := fun _ h => List.mem_cons_of_mem _ (List.mem_append_left _ (List.mem_append_right _ h))
theorem fi_X5_back_X5 : ∀ w ∈ wsX50, w ∈ wsX5_back := fun _ h => List.mem_cons_of_mem _ (List.mem_append_right _ h)
theorem hdV_X5_back : yX5_back.cls = RX5 ∧ yX5_back.cls ≠ "java/lang/invoke/MethodHandle" ∧ yX5_back.cls ≠ "java/lang/invoke/VarHandle" ∧ (parseMethodDescriptor yX5_back.desc).map (fun d => d.parameters.length) = some 1 := by decide +kernel
set_option maxRecDepth 100000 in
set_option maxHeartbeats 4000000 in
theorem c_X5_back (l : Launch) (G : va_G) (cI cZ : ClassId) (aX : Nat → Nat) (aR : Nat → Nat) (aY : Nat → Nat) (aC : Nat → Nat) (aW : Nat → Nat) (aD : Nat → Nat) (aS : Nat → Nat) (aI : Nat → Nat) (aJ : Nat → Nat) (vT : Int64) (vX : Ob) (vS : Ob) (vI : Ob) (vJ : Ob) (x1 : Int32) (res : Int32 × Ob) (h : m_X5_back vX vS vI vJ x1 = some res) : Ct l yX5_back wsX5_back rm_X5_back G cI cZ [.ref (aX 0), .int x1] [oX5 aX aW aD aR aS aI aJ aY aC vX vT, oX2 aS vS, ai cI (aS 6) 12 (vS 6), ai cI (aS 7) 12 (vS 7), ai cI (aS 8) 12 (vS 8), oX2 aI vI, ai cI (aI 6) 12 (vI 6), ai cI (aI 7) 12 (vI 7), ai cI (aI 8) 12 (vI 8), oX2 aJ vJ, ai cI (aJ 6) 12 (vJ 6), ai cI (aJ 7) 12 (vJ 7), ai cI (aJ 8) 12 (vJ 8)] (some (.int res.1)) [oX5 aX aW aD aR aS aI aJ aY aC vX vT, oX2 aS res.2, ai cI (aS 6) 12 (res.2 6), ai cI (aS 7) 12 (res.2 7), ai cI (aS 8) 12 (res.2 8), oX2 aI vI, ai cI (aI 6) 12 (vI 6), ai cI (aI 7) 12 (vI 7), ai cI (aI 8) 12 (vI 8), oX2 aJ vJ, ai cI (aJ 6) 12 (vJ 6), ai cI (aJ 7) 12 (vJ 7), ai cI (aJ 8) 12 (vJ 8)] := by
  refine Ct.of_i (maxL := 3) (by decide) rfl (Nat.le_of_ble_eq_true rfl) ?_
  intro p e s m below meth c args hx hb hml hown hts A hA hEN hP hD hS Q hRet ls hl
  have hown : s.vm.findClass RX5 = some m.cls := hown
  have hl : lv_has ls 3 [(0, .ref (aX 0)), (1, .int x1)] := hl
  unfold m_X5_back at h
  refine lv_iload_n hx hb dX5_back_0 rfl (lv_at hl 1 rfl) ?_
  refine lv_iconst (v := (0 : Int32)) hx hb dX5_back_1 k_iconst_0 ?_
  refine lv_iconst (v := (1 : Int32)) hx hb dX5_back_2 k_iconst_1 ?_
  obtain ⟨o3, ho3, h⟩ := bnd_some h
  refine call_S0 (As := [.int x1, .int (0 : Int32), .int (1 : Int32)]) (rest := []) ⟨hx, hb, hml, hown, hts⟩ (c_X5_isWithin l G cI cZ  x1 (0 : Int32) (1 : Int32) o3 ho3) (va_cwS 3 hts gX5_back_X5_isWithin rfl rfl rfl hdS_X5_isWithin ⟨Nat.le_of_ble_eq_true rfl, Nat.le_of_ble_eq_true rfl⟩) hEN hA hP hD hS [] rfl (by decide) rfl hl.1 rfl (Nat.le_of_ble_eq_true rfl) dX5_back_3 ⟨Nat.le_of_ble_eq_true rfl, Nat.le_of_ble_eq_true rfl⟩ (fun H locs hP hS => ?_)
  refine lv_if_ne (tgt := 11) hx hb dX5_back_6 (by decide) (fun c6 => ?_) (fun c6 => ?_)
  · have h := (if_neg c6).symm.trans h
    refine lv_aload_n hx hb dX5_back_11 rfl (lv_at hl 0 rfl) ?_
    refine lv_iload_n hx hb dX5_back_12 rfl (lv_at hl 1 rfl) ?_
    obtain ⟨o13, ho13, h⟩ := bnd_some h
    refine call_V0 (As := [.int x1]) (rest := []) ⟨hx, hb, hml, hown, hts⟩ (c_X5_imageOf l G cI cZ aX aR aY aC aW aD aS aI aJ vT vX x1 o13 ho13) (cwV 1 hts gX5_back_X5_imageOf rfl rfl rfl hdV_X5_imageOf ⟨Nat.le_of_ble_eq_true rfl, Nat.le_of_ble_eq_true rfl⟩) hEN hA hP hD hS [0] rfl (by decide) 0 rfl rfl rfl hl.1 rfl (Nat.le_of_ble_eq_true rfl) dX5_back_13 ⟨Nat.le_of_ble_eq_true rfl, Nat.le_of_ble_eq_true rfl⟩ (fun H locs hP hS => ?_)
    by_cases c13 : o13 = 0
    · have h := (if_pos c13).symm.trans h
      rw [if_pos c13]
      refine lv_astore_n (lv' := [(2, .ref (aI 0)), (0, .ref (aX 0)), (1, .int x1)]) hx hb dX5_back_16 rfl hl (by decide) rfl (fun ls hl => ?_)
      refine lv_aload_n hx hb dX5_back_17 rfl (lv_at hl 0 rfl) ?_
      refine va_get (D := G) (ci := 2) (v := .int (vI 0 4)) (C := RX2) (T := TX2) (N := 8) hx hb hts fi_X5_back_X2 hown hEN.1 hP 5 rfl rfl 4 (by decide) (hts (.fieldLink RX5 87 "HourWell$Son" "isKept" "Z") (List.mem_of_getElem? (i := 1) rfl)) (fun _ h9 => h9) rfl dX5_back_18 ?_
      refine lv_if_ne (tgt := 27) hx hb dX5_back_21 (by decide) (fun c21 => ?_) (fun c21 => ?_)
      · have h := (if_neg c21).symm.trans h
        refine lv_aload_n hx hb dX5_back_27 rfl (lv_at hl 1 rfl) ?_
        refine va_get (D := G) (ci := 5) (v := .ref (aS 0)) (C := RX5) (T := TX5) (N := 11) hx hb hts fi_X5_back_X5 hown hEN.1 hP 0 rfl rfl 5 (by decide) (hts (.fieldLink RX5 39 "HourWell" "son" "LHourWell$Son;") (List.mem_of_getElem? (i := 2) rfl)) (fun _ h9 => h9) rfl dX5_back_28 ?_
        refine lv_aload_n hx hb dX5_back_31 rfl (lv_at hl 0 rfl) ?_
        obtain ⟨o32, ho32, h⟩ := bnd_some h
        refine call_VJ (wr := [oX5 aX aW aD aR aS aI aJ aY aC vX vT, oX2 aJ vJ, ai cI (aJ 6) 12 (vJ 6), ai cI (aJ 7) 12 (vJ 7), ai cI (aJ 8) 12 (vJ 8)]) (As := [.ref (aI 0)]) (rest := []) ⟨hx, hb, hml, hown, hts⟩ (c_X2_becomeLike l G cI cZ aS aI vS vI o32 ho32) (cwV 1 hts gX5_back_X2_becomeLike rfl rfl rfl hdV_X2_becomeLike ⟨Nat.le_of_ble_eq_true rfl, Nat.le_of_ble_eq_true rfl⟩) hEN hA hP hD hS [1, 2, 3, 4, 5, 6, 7, 8] [0, 9, 10, 11, 12] rfl (by decide) rfl (by decide) (by decide) 1 rfl rfl rfl hl.1 rfl (Nat.le_of_ble_eq_true rfl) dX5_back_32 ⟨Nat.le_of_ble_eq_true rfl, Nat.le_of_ble_eq_true rfl⟩ (fun H locs hP hD hS => ?_)
        have hP : va_P G vwCl [oX5 aX aW aD aR aS aI aJ aY aC vX vT, oX2 aJ vJ, ai cI (aJ 6) 12 (vJ 6), ai cI (aJ 7) 12 (vJ 7), ai cI (aJ 8) 12 (vJ 8), oX2 aS o32, ai cI (aS 6) 12 (o32 6), ai cI (aS 7) 12 (o32 7), ai cI (aS 8) 12 (o32 8), oX2 aI vI, ai cI (aI 6) 12 (vI 6), ai cI (aI 7) 12 (vI 7), ai cI (aI 8) 12 (vI 8)] H := hP
        have hD : va_D A [oX5 aX aW aD aR aS aI aJ aY aC vX vT, oX2 aJ vJ, ai cI (aJ 6) 12 (vJ 6), ai cI (aJ 7) 12 (vJ 7), ai cI (aJ 8) 12 (vJ 8), oX2 aS o32, ai cI (aS 6) 12 (o32 6), ai cI (aS 7) 12 (o32 7), ai cI (aS 8) 12 (o32 8), oX2 aI vI, ai cI (aI 6) 12 (vI 6), ai cI (aI 7) 12 (vI 7), ai cI (aI 8) 12 (vI 8)] := hD
        refine lv_aload_n hx hb dX5_back_35 rfl (lv_at hl 1 rfl) ?_
        refine va_get (D := G) (ci := 5) (v := .ref (aS 0)) (C := RX5) (T := TX5) (N := 11) hx hb hts fi_X5_back_X5 hown hEN.1 hP 0 rfl rfl 5 (by decide) (hts (.fieldLink RX5 39 "HourWell" "son" "LHourWell$Son;") (List.mem_of_getElem? (i := 2) rfl)) (fun _ h9 => h9) rfl dX5_back_36 ?_
        refine va_get (D := G) (ci := 2) (v := .int (o32 0 1)) (C := RX2) (T := TX2) (N := 8) hx hb hts fi_X5_back_X2 hown hEN.1 hP 5 rfl rfl 1 (by decide) (hts (.fieldLink RX5 144 "HourWell$Son" "hour" "I") (List.mem_of_getElem? (i := 3) rfl)) (fun _ h9 => h9) rfl dX5_back_39 ?_
        have hres := Option.some.inj h
        subst hres
        exact hRet 42 _ _ _ (hP.sub [0, 5, 6, 7, 8, 9, 10, 11, 12, 1, 2, 3, 4] rfl) (hD.sub [0, 5, 6, 7, 8, 9, 10, 11, 12, 1, 2, 3, 4] (by decide) rfl) hS dX5_back_42
      · have h := (if_pos c21).symm.trans h
        refine lv_bipush (v := (-2 : Int32)) hx hb dX5_back_24 k_bipush_n2 ?_
        have hres := Option.some.inj h
        subst hres
        exact hRet 26 _ _ _ hP hD hS dX5_back_26
    · have h := (if_neg c13).symm.trans h
      rw [if_neg c13]
      refine lv_astore_n (lv' := [(2, .ref (aJ 0)), (0, .ref (aX 0)), (1, .int x1)]) hx hb dX5_back_16 rfl hl (by decide) rfl (fun ls hl => ?_)
      refine lv_aload_n hx hb dX5_back_17 rfl (lv_at hl 0 rfl) ?_
      refine va_get (D := G) (ci := 2) (v := .int (vJ 0 4)) (C := RX2) (T := TX2) (N := 8) hx hb hts fi_X5_back_X2 hown hEN.1 hP 9 rfl rfl 4 (by decide) (hts (.fieldLink RX5 87 "HourWell$Son" "isKept" "Z") (List.mem_of_getElem? (i := 1) rfl)) (fun _ h9 => h9) rfl dX5_back_18 ?_
      refine lv_if_ne (tgt := 27) hx hb dX5_back_21 (by decide) (fun c21 => ?_) (fun c21 => ?_)
      · have h := (if_neg c21).symm.trans h
        refine lv_aload_n hx hb dX5_back_27 rfl (lv_at hl 1 rfl) ?_
        refine va_get (D := G) (ci := 5) (v := .ref (aS 0)) (C := RX5) (T := TX5) (N := 11) hx hb hts fi_X5_back_X5 hown hEN.1 hP 0 rfl rfl 5 (by decide) (hts (.fieldLink RX5 39 "HourWell" "son" "LHourWell$Son;") (List.mem_of_getElem? (i := 2) rfl)) (fun _ h9 => h9) rfl dX5_back_28 ?_
        refine lv_aload_n hx hb dX5_back_31 rfl (lv_at hl 0 rfl) ?_
        obtain ⟨o32, ho32, h⟩ := bnd_some h
        refine call_VJ (wr := [oX5 aX aW aD aR aS aI aJ aY aC vX vT, oX2 aI vI, ai cI (aI 6) 12 (vI 6), ai cI (aI 7) 12 (vI 7), ai cI (aI 8) 12 (vI 8)]) (As := [.ref (aJ 0)]) (rest := []) ⟨hx, hb, hml, hown, hts⟩ (c_X2_becomeLike l G cI cZ aS aJ vS vJ o32 ho32) (cwV 1 hts gX5_back_X2_becomeLike rfl rfl rfl hdV_X2_becomeLike ⟨Nat.le_of_ble_eq_true rfl, Nat.le_of_ble_eq_true rfl⟩) hEN hA hP hD hS [1, 2, 3, 4, 9, 10, 11, 12] [0, 5, 6, 7, 8] rfl (by decide) rfl (by decide) (by decide) 1 rfl rfl rfl hl.1 rfl (Nat.le_of_ble_eq_true rfl) dX5_back_32 ⟨Nat.le_of_ble_eq_true rfl, Nat.le_of_ble_eq_true rfl⟩ (fun H locs hP hD hS => ?_)
        have hP : va_P G vwCl [oX5 aX aW aD aR aS aI aJ aY aC vX vT, oX2 aI vI, ai cI (aI 6) 12 (vI 6), ai cI (aI 7) 12 (vI 7), ai cI (aI 8) 12 (vI 8), oX2 aS o32, ai cI (aS 6) 12 (o32 6), ai cI (aS 7) 12 (o32 7), ai cI (aS 8) 12 (o32 8), oX2 aJ vJ, ai cI (aJ 6) 12 (vJ 6), ai cI (aJ 7) 12 (vJ 7), ai cI (aJ 8) 12 (vJ 8)] H := hP
        have hD : va_D A [oX5 aX aW aD aR aS aI aJ aY aC vX vT, oX2 aI vI, ai cI (aI 6) 12 (vI 6), ai cI (aI 7) 12 (vI 7), ai cI (aI 8) 12 (vI 8), oX2 aS o32, ai cI (aS 6) 12 (o32 6), ai cI (aS 7) 12 (o32 7), ai cI (aS 8) 12 (o32 8), oX2 aJ vJ, ai cI (aJ 6) 12 (vJ 6), ai cI (aJ 7) 12 (vJ 7), ai cI (aJ 8) 12 (vJ 8)] := hD
        refine lv_aload_n hx hb dX5_back_35 rfl (lv_at hl 1 rfl) ?_
        refine va_get (D := G) (ci := 5) (v := .ref (aS 0)) (C := RX5) (T := TX5) (N := 11) hx hb hts fi_X5_back_X5 hown hEN.1 hP 0 rfl rfl 5 (by decide) (hts (.fieldLink RX5 39 "HourWell" "son" "LHourWell$Son;") (List.mem_of_getElem? (i := 2) rfl)) (fun _ h9 => h9) rfl dX5_back_36 ?_
        refine va_get (D := G) (ci := 2) (v := .int (o32 0 1)) (C := RX2) (T := TX2) (N := 8) hx hb hts fi_X5_back_X2 hown hEN.1 hP 5 rfl rfl 1 (by decide) (hts (.fieldLink RX5 144 "HourWell$Son" "hour" "I") (List.mem_of_getElem? (i := 3) rfl)) (fun _ h9 => h9) rfl dX5_back_39 ?_
        have hres := Option.some.inj h
        subst hres
        exact hRet 42 _ _ _ (hP.sub [0, 5, 6, 7, 8, 1, 2, 3, 4, 9, 10, 11, 12] rfl) (hD.sub [0, 5, 6, 7, 8, 1, 2, 3, 4, 9, 10, 11, 12] (by decide) rfl) hS dX5_back_42
      · have h := (if_pos c21).symm.trans h
        refine lv_bipush (v := (-2 : Int32)) hx hb dX5_back_24 k_bipush_n2 ?_
        have hres := Option.some.inj h
        subst hres
        exact hRet 26 _ _ _ hP hD hS dX5_back_26
  · have h := (if_pos c6).symm.trans h
    refine lv_iconst (v := (-1 : Int32)) hx hb dX5_back_9 k_iconst_n1 ?_
    have hres := Option.some.inj h
    subst hres
    exact hRet 10 _ _ _ hP hD hS dX5_back_10
abbrev rm_X5_count : Room := { frames := 0, cells := 0, slots := 0, locals := 0 }
theorem fi_X5_count_X5 : ∀ w ∈ wsX50, w ∈ wsX5_count := fun _ h => List.mem_cons_of_mem _ (List.mem_append_left _ (List.mem_append_left _ (List.mem_append_left _ (List.mem_append_right _ h))))
theorem fi_X5_count_X4 : ∀ w ∈ wsX40, w ∈ wsX5_count := fun _ h => List.mem_cons_of_mem _ (List.mem_append_left _ (List.mem_append_left _ (List.mem_append_right _ h)))
theorem fi_X5_count_X0 : ∀ w ∈ wsX00, w ∈ wsX5_count := fun _ h => List.mem_cons_of_mem _ (List.mem_append_left _ (List.mem_append_right _ h))
theorem fi_X5_count_X2 : ∀ w ∈ wsX20, w ∈ wsX5_count := fun _ h => List.mem_cons_of_mem _ (List.mem_append_right _ h)
theorem hdV_X5_count : yX5_count.cls = RX5 ∧ yX5_count.cls ≠ "java/lang/invoke/MethodHandle" ∧ yX5_count.cls ≠ "java/lang/invoke/VarHandle" ∧ (parseMethodDescriptor yX5_count.desc).map (fun d => d.parameters.length) = some 1 := by decide +kernel
set_option maxRecDepth 100000 in
set_option maxHeartbeats 4000000 in
theorem c_X5_count (l : Launch) (G : va_G) (cI cZ : ClassId) (aX : Nat → Nat) (aR : Nat → Nat) (aY : Nat → Nat) (aC : Nat → Nat) (aW : Nat → Nat) (aD : Nat → Nat) (aS : Nat → Nat) (aI : Nat → Nat) (aJ : Nat → Nat) (vT : Int64) (vX : Ob) (vC : Ob) (vW : Ob) (vS : Ob) (x1 : Int32) (res : Int32) (h : m_X5_count vX vC vW vS x1 = some res) : Ct l yX5_count wsX5_count rm_X5_count G cI cZ [.ref (aX 0), .int x1] [oX5 aX aW aD aR aS aI aJ aY aC vX vT, oX0 aC vC, oX4 aW vW, oX2 aS vS] (some (.int res)) [oX5 aX aW aD aR aS aI aJ aY aC vX vT, oX0 aC vC, oX4 aW vW, oX2 aS vS] := by
  refine Ct.of_i (maxL := 2) (by decide) rfl (Nat.le_of_ble_eq_true rfl) ?_
  intro p e s m below meth c args hx hb hml hown hts A hA hEN hP hD hS Q hRet ls hl
  have hown : s.vm.findClass RX5 = some m.cls := hown
  have hl : lv_has ls 2 [(0, .ref (aX 0)), (1, .int x1)] := hl
  unfold m_X5_count at h
  refine lv_iload_n hx hb dX5_count_0 rfl (lv_at hl 1 rfl) ?_
  by_cases c1_0 : x1 = (0 : Int32)
  · have h := (if_pos c1_0).symm.trans h
    refine lv_tableIn (off := 47) (tgt := 48) hx hb dX5_count_1 (by rw [c1_0]; decide) (by rw [c1_0]; decide) (by rw [c1_0]; decide) (by decide) ?_
    refine lv_aload_n hx hb dX5_count_48 rfl (lv_at hl 0 rfl) ?_
    refine va_get (D := G) (ci := 5) (v := .ref (aW 0)) (C := RX5) (T := TX5) (N := 11) hx hb hts fi_X5_count_X5 hown hEN.1 hP 0 rfl rfl 2 (by decide) (hts (.fieldLink RX5 20 "HourWell" "world" "LHourWell$World;") (List.mem_of_getElem? (i := 1) rfl)) (fun _ h9 => h9) rfl dX5_count_49 ?_
    refine va_get (D := G) (ci := 4) (v := .int (vW 0 0)) (C := RX4) (T := TX4) (N := 13) hx hb hts fi_X5_count_X4 hown hEN.1 hP 2 rfl rfl 0 (by decide) (hts (.fieldLink RX5 153 "HourWell$World" "places" "I") (List.mem_of_getElem? (i := 2) rfl)) (fun _ h9 => h9) rfl dX5_count_52 ?_
    have hres := Option.some.inj h
    subst hres
    exact hRet 55 _ _ _ hP hD hS dX5_count_55
  · have h := (if_neg c1_0).symm.trans h
    by_cases c1_1 : x1 = (1 : Int32)
    · have h := (if_pos c1_1).symm.trans h
      refine lv_tableIn (off := 55) (tgt := 56) hx hb dX5_count_1 (by rw [c1_1]; decide) (by rw [c1_1]; decide) (by rw [c1_1]; decide) (by decide) ?_
      refine lv_aload_n hx hb dX5_count_56 rfl (lv_at hl 0 rfl) ?_
      refine va_get (D := G) (ci := 5) (v := .ref (aW 0)) (C := RX5) (T := TX5) (N := 11) hx hb hts fi_X5_count_X5 hown hEN.1 hP 0 rfl rfl 2 (by decide) (hts (.fieldLink RX5 20 "HourWell" "world" "LHourWell$World;") (List.mem_of_getElem? (i := 1) rfl)) (fun _ h9 => h9) rfl dX5_count_57 ?_
      refine va_get (D := G) (ci := 4) (v := .int (vW 0 1)) (C := RX4) (T := TX4) (N := 13) hx hb hts fi_X5_count_X4 hown hEN.1 hP 2 rfl rfl 1 (by decide) (hts (.fieldLink RX5 175 "HourWell$World" "roads" "I") (List.mem_of_getElem? (i := 3) rfl)) (fun _ h9 => h9) rfl dX5_count_60 ?_
      have hres := Option.some.inj h
      subst hres
      exact hRet 63 _ _ _ hP hD hS dX5_count_63
    · have h := (if_neg c1_1).symm.trans h
      by_cases c1_2 : x1 = (2 : Int32)
      · have h := (if_pos c1_2).symm.trans h
        refine lv_tableIn (off := 63) (tgt := 64) hx hb dX5_count_1 (by rw [c1_2]; decide) (by rw [c1_2]; decide) (by rw [c1_2]; decide) (by decide) ?_
        refine lv_aload_n hx hb dX5_count_64 rfl (lv_at hl 0 rfl) ?_
        refine va_get (D := G) (ci := 5) (v := .ref (aW 0)) (C := RX5) (T := TX5) (N := 11) hx hb hts fi_X5_count_X5 hown hEN.1 hP 0 rfl rfl 2 (by decide) (hts (.fieldLink RX5 20 "HourWell" "world" "LHourWell$World;") (List.mem_of_getElem? (i := 1) rfl)) (fun _ h9 => h9) rfl dX5_count_65 ?_
        refine va_get (D := G) (ci := 4) (v := .int (vW 0 2)) (C := RX4) (T := TX4) (N := 13) hx hb hts fi_X5_count_X4 hown hEN.1 hP 2 rfl rfl 2 (by decide) (hts (.fieldLink RX5 178 "HourWell$World" "hosts" "I") (List.mem_of_getElem? (i := 4) rfl)) (fun _ h9 => h9) rfl dX5_count_68 ?_
        have hres := Option.some.inj h
        subst hres
        exact hRet 71 _ _ _ hP hD hS dX5_count_71
      · have h := (if_neg c1_2).symm.trans h
        by_cases c1_3 : x1 = (3 : Int32)
        · have h := (if_pos c1_3).symm.trans h
          refine lv_tableIn (off := 71) (tgt := 72) hx hb dX5_count_1 (by rw [c1_3]; decide) (by rw [c1_3]; decide) (by rw [c1_3]; decide) (by decide) ?_
          refine lv_aload_n hx hb dX5_count_72 rfl (lv_at hl 0 rfl) ?_
          refine va_get (D := G) (ci := 5) (v := .ref (aW 0)) (C := RX5) (T := TX5) (N := 11) hx hb hts fi_X5_count_X5 hown hEN.1 hP 0 rfl rfl 2 (by decide) (hts (.fieldLink RX5 20 "HourWell" "world" "LHourWell$World;") (List.mem_of_getElem? (i := 1) rfl)) (fun _ h9 => h9) rfl dX5_count_73 ?_
          refine va_get (D := G) (ci := 4) (v := .int (vW 0 3)) (C := RX4) (T := TX4) (N := 13) hx hb hts fi_X5_count_X4 hown hEN.1 hP 2 rfl rfl 3 (by decide) (hts (.fieldLink RX5 284 "HourWell$World" "off" "I") (List.mem_of_getElem? (i := 5) rfl)) (fun _ h9 => h9) rfl dX5_count_76 ?_
          have hres := Option.some.inj h
          subst hres
          exact hRet 79 _ _ _ hP hD hS dX5_count_79
        · have h := (if_neg c1_3).symm.trans h
          by_cases c1_4 : x1 = (4 : Int32)
          · have h := (if_pos c1_4).symm.trans h
            refine lv_tableIn (off := 79) (tgt := 80) hx hb dX5_count_1 (by rw [c1_4]; decide) (by rw [c1_4]; decide) (by rw [c1_4]; decide) (by decide) ?_
            refine lv_aload_n hx hb dX5_count_80 rfl (lv_at hl 0 rfl) ?_
            refine va_get (D := G) (ci := 5) (v := .ref (aC 0)) (C := RX5) (T := TX5) (N := 11) hx hb hts fi_X5_count_X5 hown hEN.1 hP 0 rfl rfl 9 (by decide) (hts (.fieldLink RX5 61 "HourWell" "cups" "LHourWell$Cups;") (List.mem_of_getElem? (i := 6) rfl)) (fun _ h9 => h9) rfl dX5_count_81 ?_
            refine va_get (D := G) (ci := 0) (v := .int (vC 0 0)) (C := RX0) (T := TX0) (N := 8) hx hb hts fi_X5_count_X0 hown hEN.1 hP 1 rfl rfl 0 (by decide) (hts (.fieldLink RX5 222 "HourWell$Cups" "swapped" "I") (List.mem_of_getElem? (i := 7) rfl)) (fun _ h9 => h9) rfl dX5_count_84 ?_
            have hres := Option.some.inj h
            subst hres
            exact hRet 87 _ _ _ hP hD hS dX5_count_87
          · have h := (if_neg c1_4).symm.trans h
            by_cases c1_5 : x1 = (5 : Int32)
            · have h := (if_pos c1_5).symm.trans h
              refine lv_tableIn (off := 87) (tgt := 88) hx hb dX5_count_1 (by rw [c1_5]; decide) (by rw [c1_5]; decide) (by rw [c1_5]; decide) (by decide) ?_
              refine lv_aload_n hx hb dX5_count_88 rfl (lv_at hl 0 rfl) ?_
              refine va_get (D := G) (ci := 5) (v := .ref (aC 0)) (C := RX5) (T := TX5) (N := 11) hx hb hts fi_X5_count_X5 hown hEN.1 hP 0 rfl rfl 9 (by decide) (hts (.fieldLink RX5 61 "HourWell" "cups" "LHourWell$Cups;") (List.mem_of_getElem? (i := 6) rfl)) (fun _ h9 => h9) rfl dX5_count_89 ?_
              refine va_get (D := G) (ci := 0) (v := .int (vC 0 1)) (C := RX0) (T := TX0) (N := 8) hx hb hts fi_X5_count_X0 hown hEN.1 hP 1 rfl rfl 1 (by decide) (hts (.fieldLink RX5 228 "HourWell$Cups" "tasted" "I") (List.mem_of_getElem? (i := 8) rfl)) (fun _ h9 => h9) rfl dX5_count_92 ?_
              have hres := Option.some.inj h
              subst hres
              exact hRet 95 _ _ _ hP hD hS dX5_count_95
            · have h := (if_neg c1_5).symm.trans h
              by_cases c1_6 : x1 = (6 : Int32)
              · have h := (if_pos c1_6).symm.trans h
                refine lv_tableIn (off := 95) (tgt := 96) hx hb dX5_count_1 (by rw [c1_6]; decide) (by rw [c1_6]; decide) (by rw [c1_6]; decide) (by decide) ?_
                refine lv_aload_n hx hb dX5_count_96 rfl (lv_at hl 0 rfl) ?_
                refine va_get (D := G) (ci := 5) (v := .ref (aS 0)) (C := RX5) (T := TX5) (N := 11) hx hb hts fi_X5_count_X5 hown hEN.1 hP 0 rfl rfl 5 (by decide) (hts (.fieldLink RX5 39 "HourWell" "son" "LHourWell$Son;") (List.mem_of_getElem? (i := 9) rfl)) (fun _ h9 => h9) rfl dX5_count_97 ?_
                refine va_get (D := G) (ci := 2) (v := .int (vS 0 3)) (C := RX2) (T := TX2) (N := 8) hx hb hts fi_X5_count_X2 hown hEN.1 hP 3 rfl rfl 3 (by decide) (hts (.fieldLink RX5 159 "HourWell$Son" "known" "I") (List.mem_of_getElem? (i := 10) rfl)) (fun _ h9 => h9) rfl dX5_count_100 ?_
                have hres := Option.some.inj h
                subst hres
                exact hRet 103 _ _ _ hP hD hS dX5_count_103
              · have h := (if_neg c1_6).symm.trans h
                by_cases c1_7 : x1 = (7 : Int32)
                · have h := (if_pos c1_7).symm.trans h
                  refine lv_tableIn (off := 103) (tgt := 104) hx hb dX5_count_1 (by rw [c1_7]; decide) (by rw [c1_7]; decide) (by rw [c1_7]; decide) (by decide) ?_
                  refine lv_aload_n hx hb dX5_count_104 rfl (lv_at hl 0 rfl) ?_
                  refine va_get (D := G) (ci := 5) (v := .int (vX 0 1)) (C := RX5) (T := TX5) (N := 11) hx hb hts fi_X5_count_X5 hown hEN.1 hP 0 rfl rfl 1 (by decide) (hts (.fieldLink RX5 13 "HourWell" "bytes" "I") (List.mem_of_getElem? (i := 11) rfl)) (fun _ h9 => h9) rfl dX5_count_105 ?_
                  have hres := Option.some.inj h
                  subst hres
                  exact hRet 108 _ _ _ hP hD hS dX5_count_108
                · have h := (if_neg c1_7).symm.trans h
                  refine lv_tableOut (tgt := 109) hx hb dX5_count_1 (by have e0 := lv_neT c1_0 (a := 0) (by decide); have e1 := lv_neT c1_1 (a := 1) (by decide); have e2 := lv_neT c1_2 (a := 2) (by decide); have e3 := lv_neT c1_3 (a := 3) (by decide); have e4 := lv_neT c1_4 (a := 4) (by decide); have e5 := lv_neT c1_5 (a := 5) (by decide); have e6 := lv_neT c1_6 (a := 6) (by decide); have e7 := lv_neT c1_7 (a := 7) (by decide);  omega) (by decide) ?_
                  refine lv_iconst (v := (-1 : Int32)) hx hb dX5_count_109 k_iconst_n1 ?_
                  have hres := Option.some.inj h
                  subst hres
                  exact hRet 110 _ _ _ hP hD hS dX5_count_110
abbrev rm_X5_trace : Room := { frames := 0, cells := 0, slots := 0, locals := 0 }
theorem fi_X5_trace_X5 : ∀ w ∈ wsX50, w ∈ wsX5_trace := fun _ h => List.mem_cons_of_mem _ (List.mem_append_right _ h)
theorem hdV_X5_trace : yX5_trace.cls = RX5 ∧ yX5_trace.cls ≠ "java/lang/invoke/MethodHandle" ∧ yX5_trace.cls ≠ "java/lang/invoke/VarHandle" ∧ (parseMethodDescriptor yX5_trace.desc).map (fun d => d.parameters.length) = some 0 := by decide +kernel
set_option maxRecDepth 100000 in
set_option maxHeartbeats 4000000 in
theorem c_X5_trace (l : Launch) (G : va_G) (cI cZ : ClassId) (aX : Nat → Nat) (aR : Nat → Nat) (aY : Nat → Nat) (aC : Nat → Nat) (aW : Nat → Nat) (aD : Nat → Nat) (aS : Nat → Nat) (aI : Nat → Nat) (aJ : Nat → Nat) (vX : Ob) (vT : Int64)  (res : Int64) (h : m_X5_trace vX vT  = some res) : Ct l yX5_trace wsX5_trace rm_X5_trace G cI cZ [.ref (aX 0)] [oX5 aX aW aD aR aS aI aJ aY aC vX vT] (some (.long res)) [oX5 aX aW aD aR aS aI aJ aY aC vX vT] := by
  refine Ct.of_l (maxL := 1) (by decide) rfl (Nat.le_of_ble_eq_true rfl) ?_
  intro p e s m below meth c args hx hb hml hown hts A hA hEN hP hD hS Q hRet ls hl
  have hown : s.vm.findClass RX5 = some m.cls := hown
  have hl : lv_has ls 1 [(0, .ref (aX 0))] := hl
  unfold m_X5_trace at h
  refine lv_aload_n hx hb dX5_trace_0 rfl (lv_at hl 0 rfl) ?_
  refine va_get (D := G) (ci := 5) (v := .long vT) (C := RX5) (T := TX5) (N := 11) hx hb hts fi_X5_trace_X5 hown hEN.1 hP 0 rfl rfl 10 (by decide) (hts (.fieldLink RX5 65 "HourWell" "traced" "J") (List.mem_of_getElem? (i := 1) rfl)) (fun _ h9 => h9) rfl dX5_trace_1 ?_
  have hres := Option.some.inj h
  subst hres
  exact hRet 4 _ _ _ hP hD hS dX5_trace_4
