abbrev rm_X5_isWithin : Room := { frames := 0, cells := 0, slots := 0, locals := 0 }
theorem hdS_X5_isWithin : yX5_isWithin.cls ≠ "java/lang/invoke/MethodHandle" ∧ yX5_isWithin.cls ≠ "java/lang/invoke/VarHandle" ∧ (parseMethodDescriptor yX5_isWithin.desc).map (fun d => d.parameters.length) = some 3 := by decide +kernel
set_option maxRecDepth 100000 in
set_option maxHeartbeats 4000000 in
theorem c_X5_isWithin (l : Launch) (G : va_G) (cI cZ : ClassId)   (x0 : Int32) (x1 : Int32) (x2 : Int32) (res : Int32) (h : m_X5_isWithin  x0 x1 x2 = some res) : Ct l yX5_isWithin wsX5_isWithin rm_X5_isWithin G cI cZ [.int x0, .int x1, .int x2] [] (some (.int res)) [] := by
  refine Ct.of_z (maxL := 3) (by decide) rfl (Nat.le_of_ble_eq_true rfl) ?_
  intro p e s m below meth c args hx hb hml hown hts A hA hEN hP hD hS Q hRet ls hl
  have hown : s.vm.findClass RX5 = some m.cls := hown
  have hl : lv_has ls 3 [(0, .int x0), (1, .int x1), (2, .int x2)] := hl
  unfold m_X5_isWithin at h
  refine lv_iload_n hx hb dX5_isWithin_0 rfl (lv_at hl 0 rfl) ?_
  refine lv_iload_n hx hb dX5_isWithin_1 rfl (lv_at hl 1 rfl) ?_
  refine lv_icmp_lt (tgt := 14) hx hb dX5_isWithin_2 (by decide) (fun c2 => ?_) (fun c2 => ?_)
  · have h := (if_pos c2).symm.trans h
    refine lv_iconst (v := (0 : Int32)) hx hb dX5_isWithin_14 k_iconst_0 ?_
    have hres := Option.some.inj h
    subst hres
    exact hRet 15 nz0 _ _ _ hP hD hS dX5_isWithin_15
  · have h := (if_neg c2).symm.trans h
    refine lv_iload_n hx hb dX5_isWithin_5 rfl (lv_at hl 0 rfl) ?_
    refine lv_iload_n hx hb dX5_isWithin_6 rfl (lv_at hl 2 rfl) ?_
    refine lv_icmp_gt (tgt := 14) hx hb dX5_isWithin_7 (by decide) (fun c7 => ?_) (fun c7 => ?_)
    · have h := (if_pos c7).symm.trans h
      refine lv_iconst (v := (0 : Int32)) hx hb dX5_isWithin_14 k_iconst_0 ?_
      have hres := Option.some.inj h
      subst hres
      exact hRet 15 nz0 _ _ _ hP hD hS dX5_isWithin_15
    · have h := (if_neg c7).symm.trans h
      refine lv_iconst (v := (1 : Int32)) hx hb dX5_isWithin_10 k_iconst_1 ?_
      refine lv_goto (tgt := 15) hx hb dX5_isWithin_11 (by decide) ?_
      have hres := Option.some.inj h
      subst hres
      exact hRet 15 nz1 _ _ _ hP hD hS dX5_isWithin_15
abbrev rm_J6_bitCount_0f7a4 : Room := { frames := 0, cells := 0, slots := 0, locals := 0 }
theorem hdS_J6_bitCount_0f7a4 : yJ6_bitCount_0f7a4.cls ≠ "java/lang/invoke/MethodHandle" ∧ yJ6_bitCount_0f7a4.cls ≠ "java/lang/invoke/VarHandle" ∧ (parseMethodDescriptor yJ6_bitCount_0f7a4.desc).map (fun d => d.parameters.length) = some 1 := by decide +kernel
set_option maxRecDepth 100000 in
set_option maxHeartbeats 4000000 in
theorem c_J6_bitCount_0f7a4 (l : Launch) (G : va_G) (cI cZ : ClassId)   (x0 : Int32) (res : Int32) (h : m_J6_bitCount_0f7a4  x0 = some res) : Ct l yJ6_bitCount_0f7a4 wsJ6_bitCount_0f7a4 rm_J6_bitCount_0f7a4 G cI cZ [.int x0] [] (some (.int res)) [] := by
  refine Ct.of_i (maxL := 1) (by decide +kernel) rfl (Nat.le_of_ble_eq_true rfl) ?_
  intro p e s m below meth c args hx hb hml hown hts A hA hEN hP hD hS Q hRet ls hl
  have hown : s.vm.findClass RJ6 = some m.cls := hown
  have hl : lv_has ls 1 [(0, .int x0)] := hl
  unfold m_J6_bitCount_0f7a4 at h
  refine lv_iload_n hx hb dJ6_bitCount_0f7a4_0 rfl (lv_at hl 0 rfl) ?_
  refine lv_iload_n hx hb dJ6_bitCount_0f7a4_1 rfl (lv_at hl 0 rfl) ?_
  refine lv_iconst (v := (1 : Int32)) hx hb dJ6_bitCount_0f7a4_2 k_iconst_1 ?_
  refine lv_iushr (v := (ushr x0 (1 : Int32))) hx hb dJ6_bitCount_0f7a4_3 rfl ?_
  refine lv_ldcw (v := (1431655765 : Int32)) hx hb hown (hts (.constant RJ6 265 (1431655765)) (List.mem_of_getElem? (i := 1) rfl)) dJ6_bitCount_0f7a4_4 ?_
  refine lv_iand hx hb dJ6_bitCount_0f7a4_7 ?_
  refine lv_isub hx hb dJ6_bitCount_0f7a4_8 ?_
  refine lv_istore_n (lv' := [(0, .int (x0 - ((ushr x0 (1 : Int32)) &&& (1431655765 : Int32))))]) hx hb dJ6_bitCount_0f7a4_9 rfl hl (by decide) rfl (fun ls hl => ?_)
  refine lv_iload_n hx hb dJ6_bitCount_0f7a4_10 rfl (lv_at hl 0 rfl) ?_
  refine lv_ldcw (v := (858993459 : Int32)) hx hb hown (hts (.constant RJ6 266 (858993459)) (List.mem_of_getElem? (i := 2) rfl)) dJ6_bitCount_0f7a4_11 ?_
  refine lv_iand hx hb dJ6_bitCount_0f7a4_14 ?_
  refine lv_iload_n hx hb dJ6_bitCount_0f7a4_15 rfl (lv_at hl 0 rfl) ?_
  refine lv_iconst (v := (2 : Int32)) hx hb dJ6_bitCount_0f7a4_16 k_iconst_2 ?_
  refine lv_iushr (v := (ushr (x0 - ((ushr x0 (1 : Int32)) &&& (1431655765 : Int32))) (2 : Int32))) hx hb dJ6_bitCount_0f7a4_17 rfl ?_
  refine lv_ldcw (v := (858993459 : Int32)) hx hb hown (hts (.constant RJ6 266 (858993459)) (List.mem_of_getElem? (i := 2) rfl)) dJ6_bitCount_0f7a4_18 ?_
  refine lv_iand hx hb dJ6_bitCount_0f7a4_21 ?_
  refine lv_iadd hx hb dJ6_bitCount_0f7a4_22 ?_
  refine lv_istore_n (lv' := [(0, .int (((x0 - ((ushr x0 (1 : Int32)) &&& (1431655765 : Int32))) &&& (858993459 : Int32)) + ((ushr (x0 - ((ushr x0 (1 : Int32)) &&& (1431655765 : Int32))) (2 : Int32)) &&& (858993459 : Int32))))]) hx hb dJ6_bitCount_0f7a4_23 rfl hl (by decide) rfl (fun ls hl => ?_)
  refine lv_iload_n hx hb dJ6_bitCount_0f7a4_24 rfl (lv_at hl 0 rfl) ?_
  refine lv_iload_n hx hb dJ6_bitCount_0f7a4_25 rfl (lv_at hl 0 rfl) ?_
  refine lv_iconst (v := (4 : Int32)) hx hb dJ6_bitCount_0f7a4_26 k_iconst_4 ?_
  refine lv_iushr (v := (ushr (((x0 - ((ushr x0 (1 : Int32)) &&& (1431655765 : Int32))) &&& (858993459 : Int32)) + ((ushr (x0 - ((ushr x0 (1 : Int32)) &&& (1431655765 : Int32))) (2 : Int32)) &&& (858993459 : Int32))) (4 : Int32))) hx hb dJ6_bitCount_0f7a4_27 rfl ?_
  refine lv_iadd hx hb dJ6_bitCount_0f7a4_28 ?_
  refine lv_ldcw (v := (252645135 : Int32)) hx hb hown (hts (.constant RJ6 267 (252645135)) (List.mem_of_getElem? (i := 3) rfl)) dJ6_bitCount_0f7a4_29 ?_
  refine lv_iand hx hb dJ6_bitCount_0f7a4_32 ?_
  refine lv_istore_n (lv' := [(0, .int (((((x0 - ((ushr x0 (1 : Int32)) &&& (1431655765 : Int32))) &&& (858993459 : Int32)) + ((ushr (x0 - ((ushr x0 (1 : Int32)) &&& (1431655765 : Int32))) (2 : Int32)) &&& (858993459 : Int32))) + (ushr (((x0 - ((ushr x0 (1 : Int32)) &&& (1431655765 : Int32))) &&& (858993459 : Int32)) + ((ushr (x0 - ((ushr x0 (1 : Int32)) &&& (1431655765 : Int32))) (2 : Int32)) &&& (858993459 : Int32))) (4 : Int32))) &&& (252645135 : Int32)))]) hx hb dJ6_bitCount_0f7a4_33 rfl hl (by decide) rfl (fun ls hl => ?_)
  refine lv_iload_n hx hb dJ6_bitCount_0f7a4_34 rfl (lv_at hl 0 rfl) ?_
  refine lv_iload_n hx hb dJ6_bitCount_0f7a4_35 rfl (lv_at hl 0 rfl) ?_
  refine lv_bipush (v := (8 : Int32)) hx hb dJ6_bitCount_0f7a4_36 k_bipush_8 ?_
  refine lv_iushr (v := (ushr (((((x0 - ((ushr x0 (1 : Int32)) &&& (1431655765 : Int32))) &&& (858993459 : Int32)) + ((ushr (x0 - ((ushr x0 (1 : Int32)) &&& (1431655765 : Int32))) (2 : Int32)) &&& (858993459 : Int32))) + (ushr (((x0 - ((ushr x0 (1 : Int32)) &&& (1431655765 : Int32))) &&& (858993459 : Int32)) + ((ushr (x0 - ((ushr x0 (1 : Int32)) &&& (1431655765 : Int32))) (2 : Int32)) &&& (858993459 : Int32))) (4 : Int32))) &&& (252645135 : Int32)) (8 : Int32))) hx hb dJ6_bitCount_0f7a4_38 rfl ?_
  refine lv_iadd hx hb dJ6_bitCount_0f7a4_39 ?_
  refine lv_istore_n (lv' := [(0, .int ((((((x0 - ((ushr x0 (1 : Int32)) &&& (1431655765 : Int32))) &&& (858993459 : Int32)) + ((ushr (x0 - ((ushr x0 (1 : Int32)) &&& (1431655765 : Int32))) (2 : Int32)) &&& (858993459 : Int32))) + (ushr (((x0 - ((ushr x0 (1 : Int32)) &&& (1431655765 : Int32))) &&& (858993459 : Int32)) + ((ushr (x0 - ((ushr x0 (1 : Int32)) &&& (1431655765 : Int32))) (2 : Int32)) &&& (858993459 : Int32))) (4 : Int32))) &&& (252645135 : Int32)) + (ushr (((((x0 - ((ushr x0 (1 : Int32)) &&& (1431655765 : Int32))) &&& (858993459 : Int32)) + ((ushr (x0 - ((ushr x0 (1 : Int32)) &&& (1431655765 : Int32))) (2 : Int32)) &&& (858993459 : Int32))) + (ushr (((x0 - ((ushr x0 (1 : Int32)) &&& (1431655765 : Int32))) &&& (858993459 : Int32)) + ((ushr (x0 - ((ushr x0 (1 : Int32)) &&& (1431655765 : Int32))) (2 : Int32)) &&& (858993459 : Int32))) (4 : Int32))) &&& (252645135 : Int32)) (8 : Int32))))]) hx hb dJ6_bitCount_0f7a4_40 rfl hl (by decide) rfl (fun ls hl => ?_)
  refine lv_iload_n hx hb dJ6_bitCount_0f7a4_41 rfl (lv_at hl 0 rfl) ?_
  refine lv_iload_n hx hb dJ6_bitCount_0f7a4_42 rfl (lv_at hl 0 rfl) ?_
  refine lv_bipush (v := (16 : Int32)) hx hb dJ6_bitCount_0f7a4_43 k_bipush_16 ?_
  refine lv_iushr (v := (ushr ((((((x0 - ((ushr x0 (1 : Int32)) &&& (1431655765 : Int32))) &&& (858993459 : Int32)) + ((ushr (x0 - ((ushr x0 (1 : Int32)) &&& (1431655765 : Int32))) (2 : Int32)) &&& (858993459 : Int32))) + (ushr (((x0 - ((ushr x0 (1 : Int32)) &&& (1431655765 : Int32))) &&& (858993459 : Int32)) + ((ushr (x0 - ((ushr x0 (1 : Int32)) &&& (1431655765 : Int32))) (2 : Int32)) &&& (858993459 : Int32))) (4 : Int32))) &&& (252645135 : Int32)) + (ushr (((((x0 - ((ushr x0 (1 : Int32)) &&& (1431655765 : Int32))) &&& (858993459 : Int32)) + ((ushr (x0 - ((ushr x0 (1 : Int32)) &&& (1431655765 : Int32))) (2 : Int32)) &&& (858993459 : Int32))) + (ushr (((x0 - ((ushr x0 (1 : Int32)) &&& (1431655765 : Int32))) &&& (858993459 : Int32)) + ((ushr (x0 - ((ushr x0 (1 : Int32)) &&& (1431655765 : Int32))) (2 : Int32)) &&& (858993459 : Int32))) (4 : Int32))) &&& (252645135 : Int32)) (8 : Int32))) (16 : Int32))) hx hb dJ6_bitCount_0f7a4_45 rfl ?_
  refine lv_iadd hx hb dJ6_bitCount_0f7a4_46 ?_
  refine lv_istore_n (lv' := [(0, .int (((((((x0 - ((ushr x0 (1 : Int32)) &&& (1431655765 : Int32))) &&& (858993459 : Int32)) + ((ushr (x0 - ((ushr x0 (1 : Int32)) &&& (1431655765 : Int32))) (2 : Int32)) &&& (858993459 : Int32))) + (ushr (((x0 - ((ushr x0 (1 : Int32)) &&& (1431655765 : Int32))) &&& (858993459 : Int32)) + ((ushr (x0 - ((ushr x0 (1 : Int32)) &&& (1431655765 : Int32))) (2 : Int32)) &&& (858993459 : Int32))) (4 : Int32))) &&& (252645135 : Int32)) + (ushr (((((x0 - ((ushr x0 (1 : Int32)) &&& (1431655765 : Int32))) &&& (858993459 : Int32)) + ((ushr (x0 - ((ushr x0 (1 : Int32)) &&& (1431655765 : Int32))) (2 : Int32)) &&& (858993459 : Int32))) + (ushr (((x0 - ((ushr x0 (1 : Int32)) &&& (1431655765 : Int32))) &&& (858993459 : Int32)) + ((ushr (x0 - ((ushr x0 (1 : Int32)) &&& (1431655765 : Int32))) (2 : Int32)) &&& (858993459 : Int32))) (4 : Int32))) &&& (252645135 : Int32)) (8 : Int32))) + (ushr ((((((x0 - ((ushr x0 (1 : Int32)) &&& (1431655765 : Int32))) &&& (858993459 : Int32)) + ((ushr (x0 - ((ushr x0 (1 : Int32)) &&& (1431655765 : Int32))) (2 : Int32)) &&& (858993459 : Int32))) + (ushr (((x0 - ((ushr x0 (1 : Int32)) &&& (1431655765 : Int32))) &&& (858993459 : Int32)) + ((ushr (x0 - ((ushr x0 (1 : Int32)) &&& (1431655765 : Int32))) (2 : Int32)) &&& (858993459 : Int32))) (4 : Int32))) &&& (252645135 : Int32)) + (ushr (((((x0 - ((ushr x0 (1 : Int32)) &&& (1431655765 : Int32))) &&& (858993459 : Int32)) + ((ushr (x0 - ((ushr x0 (1 : Int32)) &&& (1431655765 : Int32))) (2 : Int32)) &&& (858993459 : Int32))) + (ushr (((x0 - ((ushr x0 (1 : Int32)) &&& (1431655765 : Int32))) &&& (858993459 : Int32)) + ((ushr (x0 - ((ushr x0 (1 : Int32)) &&& (1431655765 : Int32))) (2 : Int32)) &&& (858993459 : Int32))) (4 : Int32))) &&& (252645135 : Int32)) (8 : Int32))) (16 : Int32))))]) hx hb dJ6_bitCount_0f7a4_47 rfl hl (by decide) rfl (fun ls hl => ?_)
  refine lv_iload_n hx hb dJ6_bitCount_0f7a4_48 rfl (lv_at hl 0 rfl) ?_
  refine lv_bipush (v := (63 : Int32)) hx hb dJ6_bitCount_0f7a4_49 k_bipush_63 ?_
  refine lv_iand hx hb dJ6_bitCount_0f7a4_51 ?_
  have hres := Option.some.inj h
  subst hres
  exact hRet 52 _ _ _ hP hD hS dJ6_bitCount_0f7a4_52
abbrev rm_X5_isThing : Room := { frames := 0, cells := 0, slots := 0, locals := 0 }
theorem hdS_X5_isThing : yX5_isThing.cls ≠ "java/lang/invoke/MethodHandle" ∧ yX5_isThing.cls ≠ "java/lang/invoke/VarHandle" ∧ (parseMethodDescriptor yX5_isThing.desc).map (fun d => d.parameters.length) = some 1 := by decide +kernel
set_option maxRecDepth 100000 in
set_option maxHeartbeats 4000000 in
theorem c_X5_isThing (l : Launch) (G : va_G) (cI cZ : ClassId)   (x0 : Int32) (res : Int32) (h : m_X5_isThing  x0 = some res) : Ct l yX5_isThing wsX5_isThing rm_X5_isThing G cI cZ [.int x0] [] (some (.int res)) [] := by
  refine Ct.of_z (maxL := 1) (by decide) rfl (Nat.le_of_ble_eq_true rfl) ?_
  intro p e s m below meth c args hx hb hml hown hts A hA hEN hP hD hS Q hRet ls hl
  have hown : s.vm.findClass RX5 = some m.cls := hown
  have hl : lv_has ls 1 [(0, .int x0)] := hl
  unfold m_X5_isThing at h
  refine lv_iload_n hx hb dX5_isThing_0 rfl (lv_at hl 0 rfl) ?_
  refine lv_if_lt (tgt := 13) hx hb dX5_isThing_1 (by decide) (fun c1 => ?_) (fun c1 => ?_)
  · have h := (if_pos c1).symm.trans h
    refine lv_iconst (v := (0 : Int32)) hx hb dX5_isThing_13 k_iconst_0 ?_
    have hres := Option.some.inj h
    subst hres
    exact hRet 14 nz0 _ _ _ hP hD hS dX5_isThing_14
  · have h := (if_neg c1).symm.trans h
    refine lv_iload_n hx hb dX5_isThing_4 rfl (lv_at hl 0 rfl) ?_
    refine lv_iconst (v := (5 : Int32)) hx hb dX5_isThing_5 k_iconst_5 ?_
    refine lv_icmp_ge (tgt := 13) hx hb dX5_isThing_6 (by decide) (fun c6 => ?_) (fun c6 => ?_)
    · have h := (if_pos c6).symm.trans h
      refine lv_iconst (v := (0 : Int32)) hx hb dX5_isThing_13 k_iconst_0 ?_
      have hres := Option.some.inj h
      subst hres
      exact hRet 14 nz0 _ _ _ hP hD hS dX5_isThing_14
    · have h := (if_neg c6).symm.trans h
      refine lv_iconst (v := (1 : Int32)) hx hb dX5_isThing_9 k_iconst_1 ?_
      refine lv_goto (tgt := 14) hx hb dX5_isThing_10 (by decide) ?_
      have hres := Option.some.inj h
      subst hres
      exact hRet 14 nz1 _ _ _ hP hD hS dX5_isThing_14
abbrev rm_J7_fill_53178 : Room := { frames := 0, cells := 0, slots := 0, locals := 0 }
theorem hdS_J7_fill_53178 : yJ7_fill_53178.cls ≠ "java/lang/invoke/MethodHandle" ∧ yJ7_fill_53178.cls ≠ "java/lang/invoke/VarHandle" ∧ (parseMethodDescriptor yJ7_fill_53178.desc).map (fun d => d.parameters.length) = some 2 := by decide +kernel
set_option maxRecDepth 100000 in
set_option maxHeartbeats 4000000 in
theorem c_J7_fill_53178 (l : Launch) (G : va_G) (cI cZ : ClassId) (aT : Nat) (vt : (Nat → Int32)) (x1 : Int32) (res : (Nat → Int32)) (h : m_J7_fill_53178 vt x1 = some res) : Ct l yJ7_fill_53178 wsJ7_fill_53178 rm_J7_fill_53178 G cI cZ [.ref aT, .int x1] [ai cI aT 427 vt] none [ai cI aT 427 res] := by
  refine Ct.of_v (maxL := 4) (by decide +kernel) rfl (Nat.le_of_ble_eq_true rfl) ?_
  intro p e s m below meth c args hx hb hml hown hts A hA hEN hP hD hS Q hRet ls hl
  have hown : s.vm.findClass RJ7 = some m.cls := hown
  have hl : lv_has ls 4 [(0, .ref aT), (1, .int x1)] := hl
  have L5 : ∀ (out : (Nat → Int32)), (∀ ex : (Nat → Int32), out = ex → ∀ (H : Heap) (locs : List Loc) (ls : Array Slot), va_P G vwCl [ai cI aT 427 ex] H → va_D A [ai cI aT 427 ex] → va_S A s.heap H locs → lv_has ls 4 [] → W p l e rm_J7_fill_53178 s m args below meth c H locs 0 0 Q (F0 m 20 ls [])) → ∀ (n : Nat) (vt : (Nat → Int32)) (x1 : Int32) (x2 : Int32) (x3 : Int32), m_J7_fill_53178_L5  n vt x1 x2 x3 = some out → ∀ (H : Heap) (locs : List Loc) (ls : Array Slot), va_P G vwCl [ai cI aT 427 vt] H → va_D A [ai cI aT 427 vt] → va_S A s.heap H locs → lv_has ls 4 [(0, .ref aT), (1, .int x1), (2, .int x2), (3, .int x3)] → W p l e rm_J7_fill_53178 s m args below meth c H locs 0 0 Q (F0 m 5 ls []) := by
    intro out hKx
    intro n
    induction n with
    | zero => intro vt x1 x2 x3 h; exact nomatch (show (none : Option ((Nat → Int32))) = some out from h)
    | succ n hrc =>
      intro vt x1 x2 x3 h H locs ls hP hD hS hl
      have h : m_J7_fill_53178_L5B  (m_J7_fill_53178_L5  n) vt x1 x2 x3 = some out := h
      generalize m_J7_fill_53178_L5  n = rc at h hrc
      unfold m_J7_fill_53178_L5B at h
      refine lv_iload_n hx hb dJ7_fill_53178_5 rfl (lv_at hl 2 rfl) ?_
      refine lv_iload_n hx hb dJ7_fill_53178_6 rfl (lv_at hl 3 rfl) ?_
      refine lv_icmp_ge (tgt := 20) hx hb dJ7_fill_53178_7 (by decide) (fun c7 => ?_) (fun c7 => ?_)
      · have h := (if_pos c7).symm.trans h
        exact hKx _ (Option.some.inj h).symm _ _ _ hP hD hS (lv_sub hl [] rfl)
      · have h := (if_neg c7).symm.trans h
        refine lv_aload_n hx hb dJ7_fill_53178_10 rfl (lv_at hl 0 rfl) ?_
        refine lv_iload_n hx hb dJ7_fill_53178_11 rfl (lv_at hl 2 rfl) ?_
        refine lv_iload_n hx hb dJ7_fill_53178_12 rfl (lv_at hl 1 rfl) ?_
        obtain ⟨hg13, h⟩ := grd_some h
        refine va_iast (f := vt) hx hb hEN.1 hP hD hS 0 0 rfl rfl (inb_in hg13) dJ7_fill_53178_13 (fun H locs hP hD hS => ?_)
        have hP : va_P G vwCl [ai cI aT 427 (upd vt (Int32.toNatClampNeg x2) x1)] H := hP
        have hD : va_D A [ai cI aT 427 (upd vt (Int32.toNatClampNeg x2) x1)] := hD
        refine lv_iinc (v := (x2 + (1 : Int32))) (lv' := [(2, .int (x2 + (1 : Int32))), (0, .ref aT), (1, .int x1), (3, .int x3)]) hx hb dJ7_fill_53178_14 hl (k := 2) rfl (congrArg (fun z => x2 + z) k_iconst_1) (by decide) rfl (fun ls hl => ?_)
        refine lv_goto (tgt := 5) hx hb dJ7_fill_53178_17 (by decide) ?_
        exact hrc (upd vt (Int32.toNatClampNeg x2) x1) x1 (x2 + (1 : Int32)) x3 h _ _ _ hP hD hS (lv_sub hl [1, 2, 0, 3] rfl)
  unfold m_J7_fill_53178 at h
  refine lv_iconst (v := (0 : Int32)) hx hb dJ7_fill_53178_0 k_iconst_0 ?_
  refine lv_istore_n (lv' := [(2, .int (0 : Int32)), (0, .ref aT), (1, .int x1)]) hx hb dJ7_fill_53178_1 rfl hl (by decide) rfl (fun ls hl => ?_)
  refine lv_aload_n hx hb dJ7_fill_53178_2 rfl (lv_at hl 1 rfl) ?_
  refine va_alen (v := (427 : Int32)) hx hb hEN.1 hP 0 0 rfl rfl rfl dJ7_fill_53178_3 ?_
  refine lv_istore_n (lv' := [(3, .int (427 : Int32)), (2, .int (0 : Int32)), (0, .ref aT), (1, .int x1)]) hx hb dJ7_fill_53178_4 rfl hl (by decide) rfl (fun ls hl => ?_)
  obtain ⟨o5_1, ho5_1, h⟩ := bnd_some h
  refine L5 o5_1 (fun o5_1e er H locs ls hP hD hS hl => ?_) FU vt x1 (0 : Int32) (427 : Int32) ho5_1 _ _ _ hP hD hS (lv_sub hl [2, 3, 1, 0] rfl)
  subst er
  have hres := Option.some.inj h
  subst hres
  exact hRet 20 _ _ _ hP hD hS dJ7_fill_53178_20
abbrev rm_J9_floorMod_7cf53 : Room := { frames := 0, cells := 0, slots := 0, locals := 0 }
theorem hdS_J9_floorMod_7cf53 : yJ9_floorMod_7cf53.cls ≠ "java/lang/invoke/MethodHandle" ∧ yJ9_floorMod_7cf53.cls ≠ "java/lang/invoke/VarHandle" ∧ (parseMethodDescriptor yJ9_floorMod_7cf53.desc).map (fun d => d.parameters.length) = some 2 := by decide +kernel
set_option maxRecDepth 100000 in
set_option maxHeartbeats 4000000 in
theorem c_J9_floorMod_7cf53 (l : Launch) (G : va_G) (cI cZ : ClassId)   (x0 : Int32) (x1 : Int32) (res : Int32) (h : m_J9_floorMod_7cf53  x0 x1 = some res) : Ct l yJ9_floorMod_7cf53 wsJ9_floorMod_7cf53 rm_J9_floorMod_7cf53 G cI cZ [.int x0, .int x1] [] (some (.int res)) [] := by
  refine Ct.of_i (maxL := 3) (by decide +kernel) rfl (Nat.le_of_ble_eq_true rfl) ?_
  intro p e s m below meth c args hx hb hml hown hts A hA hEN hP hD hS Q hRet ls hl
  have hown : s.vm.findClass RJ9 = some m.cls := hown
  have hl : lv_has ls 3 [(0, .int x0), (1, .int x1)] := hl
  unfold m_J9_floorMod_7cf53 at h
  refine lv_iload_n hx hb dJ9_floorMod_7cf53_0 rfl (lv_at hl 0 rfl) ?_
  refine lv_iload_n hx hb dJ9_floorMod_7cf53_1 rfl (lv_at hl 1 rfl) ?_
  obtain ⟨hg2, h⟩ := grd_some h
  refine lv_rem hx hb dJ9_floorMod_7cf53_2 (dec_t hg2) ?_
  refine lv_istore_n (lv' := [(2, .int (rem x0 x1)), (0, .int x0), (1, .int x1)]) hx hb dJ9_floorMod_7cf53_3 rfl hl (by decide) rfl (fun ls hl => ?_)
  refine lv_iload_n hx hb dJ9_floorMod_7cf53_4 rfl (lv_at hl 1 rfl) ?_
  refine lv_iload_n hx hb dJ9_floorMod_7cf53_5 rfl (lv_at hl 2 rfl) ?_
  refine lv_ixor hx hb dJ9_floorMod_7cf53_6 ?_
  refine lv_if_ge (tgt := 18) hx hb dJ9_floorMod_7cf53_7 (by decide) (fun c7 => ?_) (fun c7 => ?_)
  · have h := (if_pos c7).symm.trans h
    refine lv_iload_n hx hb dJ9_floorMod_7cf53_18 rfl (lv_at hl 0 rfl) ?_
    have hres := Option.some.inj h
    subst hres
    exact hRet 19 _ _ _ hP hD hS dJ9_floorMod_7cf53_19
  · have h := (if_neg c7).symm.trans h
    refine lv_iload_n hx hb dJ9_floorMod_7cf53_10 rfl (lv_at hl 0 rfl) ?_
    refine lv_if_eq (tgt := 18) hx hb dJ9_floorMod_7cf53_11 (by decide) (fun c11 => ?_) (fun c11 => ?_)
    · have h := (if_pos c11).symm.trans h
      refine lv_iload_n hx hb dJ9_floorMod_7cf53_18 rfl (lv_at hl 0 rfl) ?_
      have hres := Option.some.inj h
      subst hres
      exact hRet 19 _ _ _ hP hD hS dJ9_floorMod_7cf53_19
    · have h := (if_neg c11).symm.trans h
      refine lv_iload_n hx hb dJ9_floorMod_7cf53_14 rfl (lv_at hl 0 rfl) ?_
      refine lv_iload_n hx hb dJ9_floorMod_7cf53_15 rfl (lv_at hl 2 rfl) ?_
      refine lv_iadd hx hb dJ9_floorMod_7cf53_16 ?_
      have hres := Option.some.inj h
      subst hres
      exact hRet 17 _ _ _ hP hD hS dJ9_floorMod_7cf53_17
abbrev rm_X5_hasThing : Room := { frames := 1, cells := 0, slots := 0, locals := 20 }
theorem hdS_X5_hasThing : yX5_hasThing.cls ≠ "java/lang/invoke/MethodHandle" ∧ yX5_hasThing.cls ≠ "java/lang/invoke/VarHandle" ∧ (parseMethodDescriptor yX5_hasThing.desc).map (fun d => d.parameters.length) = some 2 := by decide +kernel
set_option maxRecDepth 100000 in
set_option maxHeartbeats 4000000 in
theorem c_X5_hasThing (l : Launch) (G : va_G) (cI cZ : ClassId)   (x0 : Int32) (x1 : Int32) (res : Int32) (h : m_X5_hasThing  x0 x1 = some res) : Ct l yX5_hasThing wsX5_hasThing rm_X5_hasThing G cI cZ [.int x0, .int x1] [] (some (.int res)) [] := by
  refine Ct.of_z (maxL := 2) (by decide) rfl (Nat.le_of_ble_eq_true rfl) ?_
  intro p e s m below meth c args hx hb hml hown hts A hA hEN hP hD hS Q hRet ls hl
  have hown : s.vm.findClass RX5 = some m.cls := hown
  have hl : lv_has ls 2 [(0, .int x0), (1, .int x1)] := hl
  have j22 : m_X5_hasThing_j22   = some res → ∀ (H : Heap) (locs : List Loc) (ls : Array Slot), va_P G vwCl [] H → va_D A [] → va_S A s.heap H locs → lv_has ls 2 [] → W p l e rm_X5_hasThing s m args below meth c H locs 0 0 Q (F0 m 22 ls []) := by
    intro  h H locs ls hP hD hS hl
    unfold m_X5_hasThing_j22 at h
    refine lv_iconst (v := (1 : Int32)) hx hb dX5_hasThing_22 k_iconst_1 ?_
    refine lv_goto (tgt := 27) hx hb dX5_hasThing_23 (by decide) ?_
    have hres := Option.some.inj h
    subst hres
    exact hRet 27 nz1 _ _ _ hP hD hS dX5_hasThing_27
  unfold m_X5_hasThing at h
  refine lv_iload_n hx hb dX5_hasThing_0 rfl (lv_at hl 1 rfl) ?_
  refine lv_bipush (v := (9 : Int32)) hx hb dX5_hasThing_1 k_bipush_9 ?_
  refine lv_icmp_eq (tgt := 22) hx hb dX5_hasThing_3 (by decide) (fun c3 => ?_) (fun c3 => ?_)
  · have h := (if_pos c3).symm.trans h
    exact j22  h _ _ _ hP hD hS (lv_sub hl [] rfl)
  · have h := (if_neg c3).symm.trans h
    refine lv_iload_n hx hb dX5_hasThing_6 rfl (lv_at hl 1 rfl) ?_
    obtain ⟨o7, ho7, h⟩ := bnd_some h
    refine call_S0 (As := [.int x1]) (rest := []) ⟨hx, hb, hml, hown, hts⟩ (c_X5_isThing l G cI cZ  x1 o7 ho7) (va_cwS 1 hts gX5_hasThing_X5_isThing rfl rfl rfl hdS_X5_isThing ⟨Nat.le_of_ble_eq_true rfl, Nat.le_of_ble_eq_true rfl⟩) hEN hA hP hD hS [] rfl (by decide) rfl hl.1 rfl (Nat.le_of_ble_eq_true rfl) dX5_hasThing_7 ⟨Nat.le_of_ble_eq_true rfl, Nat.le_of_ble_eq_true rfl⟩ (fun H locs hP hS => ?_)
    refine lv_if_eq (tgt := 26) hx hb dX5_hasThing_10 (by decide) (fun c10 => ?_) (fun c10 => ?_)
    · have h := (if_pos c10).symm.trans h
      refine lv_iconst (v := (0 : Int32)) hx hb dX5_hasThing_26 k_iconst_0 ?_
      have hres := Option.some.inj h
      subst hres
      exact hRet 27 nz0 _ _ _ hP hD hS dX5_hasThing_27
    · have h := (if_neg c10).symm.trans h
      refine lv_iload_n hx hb dX5_hasThing_13 rfl (lv_at hl 0 rfl) ?_
      refine lv_iload_n hx hb dX5_hasThing_14 rfl (lv_at hl 1 rfl) ?_
      refine lv_ishr hx hb dX5_hasThing_15 ?_
      refine lv_iconst (v := (1 : Int32)) hx hb dX5_hasThing_16 k_iconst_1 ?_
      refine lv_iand hx hb dX5_hasThing_17 ?_
      refine lv_iconst (v := (1 : Int32)) hx hb dX5_hasThing_18 k_iconst_1 ?_
      refine lv_icmp_ne (tgt := 26) hx hb dX5_hasThing_19 (by decide) (fun c19 => ?_) (fun c19 => ?_)
      · have h := (if_neg c19).symm.trans h
        refine lv_iconst (v := (0 : Int32)) hx hb dX5_hasThing_26 k_iconst_0 ?_
        have hres := Option.some.inj h
        subst hres
        exact hRet 27 nz0 _ _ _ hP hD hS dX5_hasThing_27
      · have h := (if_pos c19).symm.trans h
        exact j22  h _ _ _ hP hD hS (lv_sub hl [] rfl)
abbrev rm_X5_greatestDivisor : Room := { frames := 0, cells := 0, slots := 0, locals := 0 }
theorem hdS_X5_greatestDivisor : yX5_greatestDivisor.cls ≠ "java/lang/invoke/MethodHandle" ∧ yX5_greatestDivisor.cls ≠ "java/lang/invoke/VarHandle" ∧ (parseMethodDescriptor yX5_greatestDivisor.desc).map (fun d => d.parameters.length) = some 2 := by decide +kernel
set_option maxRecDepth 100000 in
set_option maxHeartbeats 4000000 in
theorem c_X5_greatestDivisor (l : Launch) (G : va_G) (cI cZ : ClassId)   (x0 : Int32) (x1 : Int32) (res : Int32) (h : m_X5_greatestDivisor  x0 x1 = some res) : Ct l yX5_greatestDivisor wsX5_greatestDivisor rm_X5_greatestDivisor G cI cZ [.int x0, .int x1] [] (some (.int res)) [] := by
  refine Ct.of_i (maxL := 3) (by decide) rfl (Nat.le_of_ble_eq_true rfl) ?_
  intro p e s m below meth c args hx hb hml hown hts A hA hEN hP hD hS Q hRet ls hl
  have hown : s.vm.findClass RX5 = some m.cls := hown
  have hl : lv_has ls 3 [(0, .int x0), (1, .int x1)] := hl
  have L2 : ∀ (out : (Int32) ⊕ (Unit)), (∀ r : Int32, out = Sum.inl r → r = res) → (∀ ex : Unit, out = Sum.inr ex → ∀ (H : Heap) (locs : List Loc) (ls : Array Slot), va_P G vwCl [] H → va_D A [] → va_S A s.heap H locs → lv_has ls 3 [] → W p l e rm_X5_greatestDivisor s m args below meth c H locs 0 0 Q (F0 m 27 ls [])) → ∀ (n : Nat) (x0 : Int32) (x1 : Int32) (x2 : Int32), m_X5_greatestDivisor_L2  n x0 x1 x2 = some out → ∀ (H : Heap) (locs : List Loc) (ls : Array Slot), va_P G vwCl [] H → va_D A [] → va_S A s.heap H locs → lv_has ls 3 [(0, .int x0), (1, .int x1), (2, .int x2)] → W p l e rm_X5_greatestDivisor s m args below meth c H locs 0 0 Q (F0 m 2 ls []) := by
    intro out hKr hKx
    have j21 : ∀ (rc : Int32 → Int32 → Int32 → Option ((Int32) ⊕ (Unit))), (∀ (x0 : Int32) (x1 : Int32) (x2 : Int32), rc x0 x1 x2 = some out → ∀ (H : Heap) (locs : List Loc) (ls : Array Slot), va_P G vwCl [] H → va_D A [] → va_S A s.heap H locs → lv_has ls 3 [(0, .int x0), (1, .int x1), (2, .int x2)] → W p l e rm_X5_greatestDivisor s m args below meth c H locs 0 0 Q (F0 m 2 ls [])) → ∀ (x0 : Int32) (x1 : Int32) (x2 : Int32), m_X5_greatestDivisor_j21  rc x0 x1 x2 = some out → ∀ (H : Heap) (locs : List Loc) (ls : Array Slot), va_P G vwCl [] H → va_D A [] → va_S A s.heap H locs → lv_has ls 3 [(0, .int x0), (1, .int x1), (2, .int x2)] → W p l e rm_X5_greatestDivisor s m args below meth c H locs 0 0 Q (F0 m 21 ls []) := by
      intro rc hrc x0 x1 x2 h H locs ls hP hD hS hl
      unfold m_X5_greatestDivisor_j21 at h
      refine lv_iinc (v := (x2 + (-1 : Int32))) (lv' := [(2, .int (x2 + (-1 : Int32))), (0, .int x0), (1, .int x1)]) hx hb dX5_greatestDivisor_21 hl (k := 2) rfl (congrArg (fun z => x2 + z) k_iconst_n1) (by decide) rfl (fun ls hl => ?_)
      refine lv_goto (tgt := 2) hx hb dX5_greatestDivisor_24 (by decide) ?_
      exact hrc x0 x1 (x2 + (-1 : Int32)) h _ _ _ hP hD hS (lv_sub hl [1, 2, 0] rfl)
    intro n
    induction n with
    | zero => intro x0 x1 x2 h; exact nomatch (show (none : Option ((Int32) ⊕ (Unit))) = some out from h)
    | succ n hrc =>
      intro x0 x1 x2 h H locs ls hP hD hS hl
      have h : m_X5_greatestDivisor_L2B  (m_X5_greatestDivisor_L2  n) x0 x1 x2 = some out := h
      generalize m_X5_greatestDivisor_L2  n = rc at h hrc
      unfold m_X5_greatestDivisor_L2B at h
      refine lv_iload_n hx hb dX5_greatestDivisor_2 rfl (lv_at hl 2 rfl) ?_
      refine lv_iconst (v := (1 : Int32)) hx hb dX5_greatestDivisor_3 k_iconst_1 ?_
      refine lv_icmp_le (tgt := 27) hx hb dX5_greatestDivisor_4 (by decide) (fun c4 => ?_) (fun c4 => ?_)
      · have h := (if_pos c4).symm.trans h
        exact hKx _ (Option.some.inj h).symm _ _ _ hP hD hS (lv_sub hl [] rfl)
      · have h := (if_neg c4).symm.trans h
        refine lv_iload_n hx hb dX5_greatestDivisor_7 rfl (lv_at hl 0 rfl) ?_
        refine lv_iload_n hx hb dX5_greatestDivisor_8 rfl (lv_at hl 2 rfl) ?_
        obtain ⟨hg9, h⟩ := grd_some h
        refine lv_rem hx hb dX5_greatestDivisor_9 (dec_t hg9) ?_
        refine lv_if_ne (tgt := 21) hx hb dX5_greatestDivisor_10 (by decide) (fun c10 => ?_) (fun c10 => ?_)
        · have h := (if_neg c10).symm.trans h
          exact j21 rc hrc x0 x1 x2 h _ _ _ hP hD hS (lv_sub hl [0, 1, 2] rfl)
        · have h := (if_pos c10).symm.trans h
          refine lv_iload_n hx hb dX5_greatestDivisor_13 rfl (lv_at hl 1 rfl) ?_
          refine lv_iload_n hx hb dX5_greatestDivisor_14 rfl (lv_at hl 2 rfl) ?_
          obtain ⟨hg15, h⟩ := grd_some h
          refine lv_rem hx hb dX5_greatestDivisor_15 (dec_t hg15) ?_
          refine lv_if_ne (tgt := 21) hx hb dX5_greatestDivisor_16 (by decide) (fun c16 => ?_) (fun c16 => ?_)
          · have h := (if_neg c16).symm.trans h
            exact j21 rc hrc x0 x1 x2 h _ _ _ hP hD hS (lv_sub hl [0, 1, 2] rfl)
          · have h := (if_pos c16).symm.trans h
            refine lv_iload_n hx hb dX5_greatestDivisor_19 rfl (lv_at hl 2 rfl) ?_
            have hres := hKr _ (Option.some.inj h).symm
            subst hres
            exact hRet 20 _ _ _ hP hD hS dX5_greatestDivisor_20
  unfold m_X5_greatestDivisor at h
  refine lv_iload_n hx hb dX5_greatestDivisor_0 rfl (lv_at hl 1 rfl) ?_
  refine lv_istore_n (lv' := [(2, .int x1), (0, .int x0), (1, .int x1)]) hx hb dX5_greatestDivisor_1 rfl hl (by decide) rfl (fun ls hl => ?_)
  obtain ⟨o2_1, ho2_1, h⟩ := bnd_some h
  refine L2 o2_1 (fun r er => ?_) (fun o2_1x er H locs ls hP hD hS hl => ?_) FU x0 x1 x1 ho2_1 _ _ _ hP hD hS (lv_sub hl [1, 2, 0] rfl)
  · subst er
    have h := (sm_l _ _ _).symm.trans h
    exact Option.some.inj h
  · subst er
    have h := (sm_r _ _ _).symm.trans h
    refine lv_iconst (v := (1 : Int32)) hx hb dX5_greatestDivisor_27 k_iconst_1 ?_
    have hres := Option.some.inj h
    subst hres
    exact hRet 28 _ _ _ hP hD hS dX5_greatestDivisor_28
abbrev rm_X5_isSeat : Room := { frames := 1, cells := 0, slots := 0, locals := 22 }
theorem hdS_X5_isSeat : yX5_isSeat.cls ≠ "java/lang/invoke/MethodHandle" ∧ yX5_isSeat.cls ≠ "java/lang/invoke/VarHandle" ∧ (parseMethodDescriptor yX5_isSeat.desc).map (fun d => d.parameters.length) = some 1 := by decide +kernel
set_option maxRecDepth 100000 in
set_option maxHeartbeats 4000000 in
theorem c_X5_isSeat (l : Launch) (G : va_G) (cI cZ : ClassId)   (x0 : Int32) (res : Int32) (h : m_X5_isSeat  x0 = some res) : Ct l yX5_isSeat wsX5_isSeat rm_X5_isSeat G cI cZ [.int x0] [] (some (.int res)) [] := by
  refine Ct.of_z (maxL := 1) (by decide) rfl (Nat.le_of_ble_eq_true rfl) ?_
  intro p e s m below meth c args hx hb hml hown hts A hA hEN hP hD hS Q hRet ls hl
  have hown : s.vm.findClass RX5 = some m.cls := hown
  have hl : lv_has ls 1 [(0, .int x0)] := hl
  unfold m_X5_isSeat at h
  refine lv_iload_n hx hb dX5_isSeat_0 rfl (lv_at hl 0 rfl) ?_
  refine lv_iconst (v := (0 : Int32)) hx hb dX5_isSeat_1 k_iconst_0 ?_
  refine lv_iconst (v := (4 : Int32)) hx hb dX5_isSeat_2 k_iconst_4 ?_
  obtain ⟨o3, ho3, h⟩ := bnd_some h
  refine call_S0 (As := [.int x0, .int (0 : Int32), .int (4 : Int32)]) (rest := []) ⟨hx, hb, hml, hown, hts⟩ (c_X5_isWithin l G cI cZ  x0 (0 : Int32) (4 : Int32) o3 ho3) (va_cwS 3 hts gX5_isSeat_X5_isWithin rfl rfl rfl hdS_X5_isWithin ⟨Nat.le_of_ble_eq_true rfl, Nat.le_of_ble_eq_true rfl⟩) hEN hA hP hD hS [] rfl (by decide) rfl hl.1 rfl (Nat.le_of_ble_eq_true rfl) dX5_isSeat_3 ⟨Nat.le_of_ble_eq_true rfl, Nat.le_of_ble_eq_true rfl⟩ (fun H locs hP hS => ?_)
  obtain ⟨hg6, h⟩ := grd_some h
  have hres := Option.some.inj h
  subst hres
  exact hRet 6 (bz_n hg6) _ _ _ hP hD hS dX5_isSeat_6
