abbrev rm_X6_in : Room := { frames := 0, cells := 0, slots := 0, locals := 0 }
theorem hdS_X6_in : yX6_in.cls ≠ "java/lang/invoke/MethodHandle" ∧ yX6_in.cls ≠ "java/lang/invoke/VarHandle" ∧ (parseMethodDescriptor yX6_in.desc).map (fun d => d.parameters.length) = some 3 := by decide +kernel
set_option maxRecDepth 100000 in
set_option maxHeartbeats 4000000 in
theorem c_X6_in (l : Launch) (G : va_G) (cI cZ : ClassId)   (x0 : Int64) (x2 : Int64) (x4 : Int64) (res : Int32) (h : m_X6_in  x0 x2 x4 = some res) : Ct l yX6_in wsX6_in rm_X6_in G cI cZ [.long x0, .long x2, .long x4] [] (some (.int res)) [] := by
  refine Ct.of_z (maxL := 6) (by decide) rfl (Nat.le_of_ble_eq_true rfl) ?_
  intro p e s m below meth c args hx hb hml hown hts A hA hEN hP hD hS Q hRet ls hl
  have hown : s.vm.findClass RX6 = some m.cls := hown
  have hl : lv_has ls 6 [(0, .long x0), (2, .long x2), (4, .long x4)] := hl
  unfold m_X6_in at h
  refine lv_lload_n hx hb dX6_in_0 rfl (lv_at hl 0 rfl) ?_
  refine lv_lload_n hx hb dX6_in_1 rfl (lv_at hl 1 rfl) ?_
  refine W.lcmp hx hb dX6_in_2 ?_
  refine lv_if_lt (tgt := 17) hx hb dX6_in_3 (by decide) (fun c3 => ?_) (fun c3 => ?_)
  · have h := (if_pos c3).symm.trans h
    refine lv_iconst (v := (0 : Int32)) hx hb dX6_in_17 k_iconst_0 ?_
    have hres := Option.some.inj h
    subst hres
    exact hRet 18 nz0 _ _ _ hP hD hS dX6_in_18
  · have h := (if_neg c3).symm.trans h
    refine lv_lload_n hx hb dX6_in_6 rfl (lv_at hl 0 rfl) ?_
    refine lv_lload hx hb dX6_in_7 (lv_at hl 2 rfl) ?_
    refine W.lcmp hx hb dX6_in_9 ?_
    refine lv_if_gt (tgt := 17) hx hb dX6_in_10 (by decide) (fun c10 => ?_) (fun c10 => ?_)
    · have h := (if_pos c10).symm.trans h
      refine lv_iconst (v := (0 : Int32)) hx hb dX6_in_17 k_iconst_0 ?_
      have hres := Option.some.inj h
      subst hres
      exact hRet 18 nz0 _ _ _ hP hD hS dX6_in_18
    · have h := (if_neg c10).symm.trans h
      refine lv_iconst (v := (1 : Int32)) hx hb dX6_in_13 k_iconst_1 ?_
      refine lv_goto (tgt := 18) hx hb dX6_in_14 (by decide) ?_
      have hres := Option.some.inj h
      subst hres
      exact hRet 18 nz1 _ _ _ hP hD hS dX6_in_18
abbrev rm_X6_isTwo : Room := { frames := 1, cells := 0, slots := 0, locals := 25 }
theorem hdS_X6_isTwo : yX6_isTwo.cls ≠ "java/lang/invoke/MethodHandle" ∧ yX6_isTwo.cls ≠ "java/lang/invoke/VarHandle" ∧ (parseMethodDescriptor yX6_isTwo.desc).map (fun d => d.parameters.length) = some 1 := by decide +kernel
set_option maxRecDepth 100000 in
set_option maxHeartbeats 4000000 in
theorem c_X6_isTwo (l : Launch) (G : va_G) (cI cZ : ClassId)   (x0 : Int32) (res : Int32) (h : m_X6_isTwo  x0 = some res) : Ct l yX6_isTwo wsX6_isTwo rm_X6_isTwo G cI cZ [.int x0] [] (some (.int res)) [] := by
  refine Ct.of_z (maxL := 1) (by decide) rfl (Nat.le_of_ble_eq_true rfl) ?_
  intro p e s m below meth c args hx hb hml hown hts A hA hEN hP hD hS Q hRet ls hl
  have hown : s.vm.findClass RX6 = some m.cls := hown
  have hl : lv_has ls 1 [(0, .int x0)] := hl
  unfold m_X6_isTwo at h
  refine lv_iload_n hx hb dX6_isTwo_0 rfl (lv_at hl 0 rfl) ?_
  refine lv_i2l (v := (Int32.toInt64 x0)) hx hb dX6_isTwo_1 rfl ?_
  refine lv_lconst (v := (0 : Int64)) hx hb dX6_isTwo_2 (by decide) ?_
  refine lv_lconst (v := (1 : Int64)) hx hb dX6_isTwo_3 (by decide) ?_
  obtain ⟨o4, ho4, h⟩ := bnd_some h
  refine call_S0 (As := [.long (Int32.toInt64 x0), .long (0 : Int64), .long (1 : Int64)]) (rest := []) ⟨hx, hb, hml, hown, hts⟩ (c_X6_in l G cI cZ  (Int32.toInt64 x0) (0 : Int64) (1 : Int64) o4 ho4) (va_cwS 3 hts gX6_isTwo_X6_in rfl rfl rfl hdS_X6_in ⟨Nat.le_of_ble_eq_true rfl, Nat.le_of_ble_eq_true rfl⟩) hEN hA hP hD hS [] rfl (by decide) rfl hl.1 rfl (Nat.le_of_ble_eq_true rfl) dX6_isTwo_4 ⟨Nat.le_of_ble_eq_true rfl, Nat.le_of_ble_eq_true rfl⟩ (fun H locs hP hS => ?_)
  obtain ⟨hg7, h⟩ := grd_some h
  have hres := Option.some.inj h
  subst hres
  exact hRet 7 (bz_n hg7) _ _ _ hP hD hS dX6_isTwo_7
abbrev rm_X6_holds : Room := { frames := 0, cells := 0, slots := 0, locals := 0 }
theorem hdS_X6_holds : yX6_holds.cls ≠ "java/lang/invoke/MethodHandle" ∧ yX6_holds.cls ≠ "java/lang/invoke/VarHandle" ∧ (parseMethodDescriptor yX6_holds.desc).map (fun d => d.parameters.length) = some 2 := by decide +kernel
set_option maxRecDepth 100000 in
set_option maxHeartbeats 4000000 in
theorem c_X6_holds (l : Launch) (G : va_G) (cI cZ : ClassId)   (x0 : Int32) (x1 : Int32) (res : Int32) (h : m_X6_holds  x0 x1 = some res) : Ct l yX6_holds wsX6_holds rm_X6_holds G cI cZ [.int x0, .int x1] [] (some (.int res)) [] := by
  refine Ct.of_z (maxL := 2) (by decide) rfl (Nat.le_of_ble_eq_true rfl) ?_
  intro p e s m below meth c args hx hb hml hown hts A hA hEN hP hD hS Q hRet ls hl
  have hown : s.vm.findClass RX6 = some m.cls := hown
  have hl : lv_has ls 2 [(0, .int x0), (1, .int x1)] := hl
  unfold m_X6_holds at h
  refine lv_iload_n hx hb dX6_holds_0 rfl (lv_at hl 0 rfl) ?_
  refine lv_iload_n hx hb dX6_holds_1 rfl (lv_at hl 1 rfl) ?_
  refine lv_ishr hx hb dX6_holds_2 ?_
  refine lv_iconst (v := (1 : Int32)) hx hb dX6_holds_3 k_iconst_1 ?_
  refine lv_iand hx hb dX6_holds_4 ?_
  refine lv_iconst (v := (1 : Int32)) hx hb dX6_holds_5 k_iconst_1 ?_
  refine lv_icmp_ne (tgt := 13) hx hb dX6_holds_6 (by decide) (fun c6 => ?_) (fun c6 => ?_)
  · have h := (if_neg c6).symm.trans h
    refine lv_iconst (v := (0 : Int32)) hx hb dX6_holds_13 k_iconst_0 ?_
    have hres := Option.some.inj h
    subst hres
    exact hRet 14 nz0 _ _ _ hP hD hS dX6_holds_14
  · have h := (if_pos c6).symm.trans h
    refine lv_iconst (v := (1 : Int32)) hx hb dX6_holds_9 k_iconst_1 ?_
    refine lv_goto (tgt := 14) hx hb dX6_holds_10 (by decide) ?_
    have hres := Option.some.inj h
    subst hres
    exact hRet 14 nz1 _ _ _ hP hD hS dX6_holds_14
abbrev rm_X6_bits : Room := { frames := 0, cells := 0, slots := 0, locals := 0 }
theorem hdS_X6_bits : yX6_bits.cls ≠ "java/lang/invoke/MethodHandle" ∧ yX6_bits.cls ≠ "java/lang/invoke/VarHandle" ∧ (parseMethodDescriptor yX6_bits.desc).map (fun d => d.parameters.length) = some 1 := by decide +kernel
set_option maxRecDepth 100000 in
set_option maxHeartbeats 4000000 in
theorem c_X6_bits (l : Launch) (G : va_G) (cI cZ : ClassId)   (x0 : Int32) (res : Int32) (h : m_X6_bits  x0 = some res) : Ct l yX6_bits wsX6_bits rm_X6_bits G cI cZ [.int x0] [] (some (.int res)) [] := by
  refine Ct.of_i (maxL := 3) (by decide) rfl (Nat.le_of_ble_eq_true rfl) ?_
  intro p e s m below meth c args hx hb hml hown hts A hA hEN hP hD hS Q hRet ls hl
  have hown : s.vm.findClass RX6 = some m.cls := hown
  have hl : lv_has ls 3 [(0, .int x0)] := hl
  have L4 : ∀ (out : Int32), (∀ ex : Int32, out = ex → ∀ (H : Heap) (locs : List Loc) (ls : Array Slot), va_P G vwCl [] H → va_D A [] → va_S A s.heap H locs → lv_has ls 3 [(1, .int ex)] → W p l e rm_X6_bits s m args below meth c H locs 0 0 Q (F0 m 20 ls [])) → ∀ (n : Nat) (x1 : Int32) (x2 : Int32), m_X6_bits_L4  n x1 x2 = some out → ∀ (H : Heap) (locs : List Loc) (ls : Array Slot), va_P G vwCl [] H → va_D A [] → va_S A s.heap H locs → lv_has ls 3 [(1, .int x1), (2, .int x2)] → W p l e rm_X6_bits s m args below meth c H locs 0 0 Q (F0 m 4 ls []) := by
    intro out hKx
    intro n
    induction n with
    | zero => intro x1 x2 h; exact nomatch (show (none : Option (Int32)) = some out from h)
    | succ n hrc =>
      intro x1 x2 h H locs ls hP hD hS hl
      have h : m_X6_bits_L4B  (m_X6_bits_L4  n) x1 x2 = some out := h
      generalize m_X6_bits_L4  n = rc at h hrc
      unfold m_X6_bits_L4B at h
      refine lv_iload_n hx hb dX6_bits_4 rfl (lv_at hl 1 rfl) ?_
      refine lv_if_eq (tgt := 20) hx hb dX6_bits_5 (by decide) (fun c5 => ?_) (fun c5 => ?_)
      · have h := (if_pos c5).symm.trans h
        exact hKx _ (Option.some.inj h).symm _ _ _ hP hD hS (lv_sub hl [0] rfl)
      · have h := (if_neg c5).symm.trans h
        refine lv_iinc (v := (x1 + (1 : Int32))) (lv' := [(1, .int (x1 + (1 : Int32))), (2, .int x2)]) hx hb dX6_bits_8 hl (k := 0) rfl (congrArg (fun z => x1 + z) k_iconst_1) (by decide) rfl (fun ls hl => ?_)
        refine lv_iload_n hx hb dX6_bits_11 rfl (lv_at hl 1 rfl) ?_
        refine lv_iload_n hx hb dX6_bits_12 rfl (lv_at hl 1 rfl) ?_
        refine lv_iconst (v := (1 : Int32)) hx hb dX6_bits_13 k_iconst_1 ?_
        refine lv_isub hx hb dX6_bits_14 ?_
        refine lv_iand hx hb dX6_bits_15 ?_
        refine lv_istore_n (lv' := [(2, .int (x2 &&& (x2 - (1 : Int32)))), (1, .int (x1 + (1 : Int32)))]) hx hb dX6_bits_16 rfl hl (by decide) rfl (fun ls hl => ?_)
        refine lv_goto (tgt := 4) hx hb dX6_bits_17 (by decide) ?_
        exact hrc (x1 + (1 : Int32)) (x2 &&& (x2 - (1 : Int32))) h _ _ _ hP hD hS (lv_sub hl [1, 0] rfl)
  unfold m_X6_bits at h
  refine lv_iconst (v := (0 : Int32)) hx hb dX6_bits_0 k_iconst_0 ?_
  refine lv_istore_n (lv' := [(1, .int (0 : Int32)), (0, .int x0)]) hx hb dX6_bits_1 rfl hl (by decide) rfl (fun ls hl => ?_)
  refine lv_iload_n hx hb dX6_bits_2 rfl (lv_at hl 1 rfl) ?_
  refine lv_istore_n (lv' := [(2, .int x0), (1, .int (0 : Int32)), (0, .int x0)]) hx hb dX6_bits_3 rfl hl (by decide) rfl (fun ls hl => ?_)
  obtain ⟨o4_1, ho4_1, h⟩ := bnd_some h
  refine L4 o4_1 (fun o4_1e er H locs ls hP hD hS hl => ?_) FU (0 : Int32) x0 ho4_1 _ _ _ hP hD hS (lv_sub hl [1, 0] rfl)
  subst er
  refine lv_iload_n hx hb dX6_bits_20 rfl (lv_at hl 0 rfl) ?_
  have hres := Option.some.inj h
  subst hres
  exact hRet 21 _ _ _ hP hD hS dX6_bits_21
abbrev rm_X6_clean : Room := { frames := 0, cells := 0, slots := 0, locals := 0 }
theorem hdS_X6_clean : yX6_clean.cls ≠ "java/lang/invoke/MethodHandle" ∧ yX6_clean.cls ≠ "java/lang/invoke/VarHandle" ∧ (parseMethodDescriptor yX6_clean.desc).map (fun d => d.parameters.length) = some 1 := by decide +kernel
set_option maxRecDepth 100000 in
set_option maxHeartbeats 4000000 in
theorem c_X6_clean (l : Launch) (G : va_G) (cI cZ : ClassId) (aT : Nat) (vt : (Nat → Int32))  (res : (Nat → Int32)) (h : m_X6_clean vt  = some res) : Ct l yX6_clean wsX6_clean rm_X6_clean G cI cZ [.ref aT] [ai cI aT 70 vt] none [ai cI aT 70 res] := by
  refine Ct.of_v (maxL := 2) (by decide) rfl (Nat.le_of_ble_eq_true rfl) ?_
  intro p e s m below meth c args hx hb hml hown hts A hA hEN hP hD hS Q hRet ls hl
  have hown : s.vm.findClass RX6 = some m.cls := hown
  have hl : lv_has ls 2 [(0, .ref aT)] := hl
  have L2 : ∀ (out : (Nat → Int32)), (∀ ex : (Nat → Int32), out = ex → ∀ (H : Heap) (locs : List Loc) (ls : Array Slot), va_P G vwCl [ai cI aT 70 ex] H → va_D A [ai cI aT 70 ex] → va_S A s.heap H locs → lv_has ls 2 [(0, .ref aT)] → W p l e rm_X6_clean s m args below meth c H locs 0 0 Q (F0 m 18 ls [])) → ∀ (n : Nat) (vt : (Nat → Int32)) (x1 : Int32), m_X6_clean_L2  n vt x1 = some out → ∀ (H : Heap) (locs : List Loc) (ls : Array Slot), va_P G vwCl [ai cI aT 70 vt] H → va_D A [ai cI aT 70 vt] → va_S A s.heap H locs → lv_has ls 2 [(0, .ref aT), (1, .int x1)] → W p l e rm_X6_clean s m args below meth c H locs 0 0 Q (F0 m 2 ls []) := by
    intro out hKx
    intro n
    induction n with
    | zero => intro vt x1 h; exact nomatch (show (none : Option ((Nat → Int32))) = some out from h)
    | succ n hrc =>
      intro vt x1 h H locs ls hP hD hS hl
      have h : m_X6_clean_L2B  (m_X6_clean_L2  n) vt x1 = some out := h
      generalize m_X6_clean_L2  n = rc at h hrc
      unfold m_X6_clean_L2B at h
      refine lv_iload_n hx hb dX6_clean_2 rfl (lv_at hl 1 rfl) ?_
      refine lv_bipush (v := (70 : Int32)) hx hb dX6_clean_3 k_bipush_70 ?_
      refine lv_icmp_ge (tgt := 18) hx hb dX6_clean_5 (by decide) (fun c5 => ?_) (fun c5 => ?_)
      · have h := (if_pos c5).symm.trans h
        exact hKx _ (Option.some.inj h).symm _ _ _ hP hD hS (lv_sub hl [0] rfl)
      · have h := (if_neg c5).symm.trans h
        refine lv_aload_n hx hb dX6_clean_8 rfl (lv_at hl 0 rfl) ?_
        refine lv_iload_n hx hb dX6_clean_9 rfl (lv_at hl 1 rfl) ?_
        refine lv_iconst (v := (0 : Int32)) hx hb dX6_clean_10 k_iconst_0 ?_
        obtain ⟨hg11, h⟩ := grd_some h
        refine va_iast (f := vt) hx hb hEN.1 hP hD hS 0 0 rfl rfl (inb_in hg11) dX6_clean_11 (fun H locs hP hD hS => ?_)
        have hP : va_P G vwCl [ai cI aT 70 (upd vt (Int32.toNatClampNeg x1) (0 : Int32))] H := hP
        have hD : va_D A [ai cI aT 70 (upd vt (Int32.toNatClampNeg x1) (0 : Int32))] := hD
        refine lv_iinc (v := (x1 + (1 : Int32))) (lv' := [(1, .int (x1 + (1 : Int32))), (0, .ref aT)]) hx hb dX6_clean_12 hl (k := 1) rfl (congrArg (fun z => x1 + z) k_iconst_1) (by decide) rfl (fun ls hl => ?_)
        refine lv_goto (tgt := 2) hx hb dX6_clean_15 (by decide) ?_
        exact hrc (upd vt (Int32.toNatClampNeg x1) (0 : Int32)) (x1 + (1 : Int32)) h _ _ _ hP hD hS (lv_sub hl [1, 0] rfl)
  have L20 : ∀ (out : (Nat → Int32)), (∀ ex : (Nat → Int32), out = ex → ∀ (H : Heap) (locs : List Loc) (ls : Array Slot), va_P G vwCl [ai cI aT 70 ex] H → va_D A [ai cI aT 70 ex] → va_S A s.heap H locs → lv_has ls 2 [] → W p l e rm_X6_clean s m args below meth c H locs 0 0 Q (F0 m 55 ls [])) → ∀ (n : Nat) (vt : (Nat → Int32)) (x1 : Int32), m_X6_clean_L20  n vt x1 = some out → ∀ (H : Heap) (locs : List Loc) (ls : Array Slot), va_P G vwCl [ai cI aT 70 vt] H → va_D A [ai cI aT 70 vt] → va_S A s.heap H locs → lv_has ls 2 [(0, .ref aT), (1, .int x1)] → W p l e rm_X6_clean s m args below meth c H locs 0 0 Q (F0 m 20 ls []) := by
    intro out hKx
    intro n
    induction n with
    | zero => intro vt x1 h; exact nomatch (show (none : Option ((Nat → Int32))) = some out from h)
    | succ n hrc =>
      intro vt x1 h H locs ls hP hD hS hl
      have h : m_X6_clean_L20B  (m_X6_clean_L20  n) vt x1 = some out := h
      generalize m_X6_clean_L20  n = rc at h hrc
      unfold m_X6_clean_L20B at h
      refine lv_iload_n hx hb dX6_clean_20 rfl (lv_at hl 1 rfl) ?_
      refine lv_bipush (v := (7 : Int32)) hx hb dX6_clean_21 k_bipush_7 ?_
      refine lv_icmp_ge (tgt := 55) hx hb dX6_clean_23 (by decide) (fun c23 => ?_) (fun c23 => ?_)
      · have h := (if_pos c23).symm.trans h
        exact hKx _ (Option.some.inj h).symm _ _ _ hP hD hS (lv_sub hl [] rfl)
      · have h := (if_neg c23).symm.trans h
        refine lv_aload_n hx hb dX6_clean_26 rfl (lv_at hl 0 rfl) ?_
        refine lv_iconst (v := (4 : Int32)) hx hb dX6_clean_27 k_iconst_4 ?_
        refine lv_iload_n hx hb dX6_clean_28 rfl (lv_at hl 1 rfl) ?_
        refine lv_iadd hx hb dX6_clean_29 ?_
        refine lv_bipush (v := (9 : Int32)) hx hb dX6_clean_30 k_bipush_9 ?_
        obtain ⟨hg32, h⟩ := grd_some h
        refine va_iast (f := vt) hx hb hEN.1 hP hD hS 0 0 rfl rfl (inb_in hg32) dX6_clean_32 (fun H locs hP hD hS => ?_)
        have hP : va_P G vwCl [ai cI aT 70 (upd vt (Int32.toNatClampNeg ((4 : Int32) + x1)) (9 : Int32))] H := hP
        have hD : va_D A [ai cI aT 70 (upd vt (Int32.toNatClampNeg ((4 : Int32) + x1)) (9 : Int32))] := hD
        refine lv_aload_n hx hb dX6_clean_33 rfl (lv_at hl 0 rfl) ?_
        refine lv_bipush (v := (11 : Int32)) hx hb dX6_clean_34 k_bipush_11 ?_
        refine lv_iload_n hx hb dX6_clean_36 rfl (lv_at hl 1 rfl) ?_
        refine lv_iadd hx hb dX6_clean_37 ?_
        refine lv_bipush (v := (-9 : Int32)) hx hb dX6_clean_38 k_bipush_n9 ?_
        obtain ⟨hg40, h⟩ := grd_some h
        refine va_iast (f := (upd vt (Int32.toNatClampNeg ((4 : Int32) + x1)) (9 : Int32))) hx hb hEN.1 hP hD hS 0 0 rfl rfl (inb_in hg40) dX6_clean_40 (fun H locs hP hD hS => ?_)
        have hP : va_P G vwCl [ai cI aT 70 (upd (upd vt (Int32.toNatClampNeg ((4 : Int32) + x1)) (9 : Int32)) (Int32.toNatClampNeg ((11 : Int32) + x1)) (-9 : Int32))] H := hP
        have hD : va_D A [ai cI aT 70 (upd (upd vt (Int32.toNatClampNeg ((4 : Int32) + x1)) (9 : Int32)) (Int32.toNatClampNeg ((11 : Int32) + x1)) (-9 : Int32))] := hD
        refine lv_aload_n hx hb dX6_clean_41 rfl (lv_at hl 0 rfl) ?_
        refine lv_bipush (v := (18 : Int32)) hx hb dX6_clean_42 k_bipush_18 ?_
        refine lv_iload_n hx hb dX6_clean_44 rfl (lv_at hl 1 rfl) ?_
        refine lv_iadd hx hb dX6_clean_45 ?_
        refine lv_bipush (v := (24 : Int32)) hx hb dX6_clean_46 k_bipush_24 ?_
        obtain ⟨hg48, h⟩ := grd_some h
        refine va_iast (f := (upd (upd vt (Int32.toNatClampNeg ((4 : Int32) + x1)) (9 : Int32)) (Int32.toNatClampNeg ((11 : Int32) + x1)) (-9 : Int32))) hx hb hEN.1 hP hD hS 0 0 rfl rfl (inb_in hg48) dX6_clean_48 (fun H locs hP hD hS => ?_)
        have hP : va_P G vwCl [ai cI aT 70 (upd (upd (upd vt (Int32.toNatClampNeg ((4 : Int32) + x1)) (9 : Int32)) (Int32.toNatClampNeg ((11 : Int32) + x1)) (-9 : Int32)) (Int32.toNatClampNeg ((18 : Int32) + x1)) (24 : Int32))] H := hP
        have hD : va_D A [ai cI aT 70 (upd (upd (upd vt (Int32.toNatClampNeg ((4 : Int32) + x1)) (9 : Int32)) (Int32.toNatClampNeg ((11 : Int32) + x1)) (-9 : Int32)) (Int32.toNatClampNeg ((18 : Int32) + x1)) (24 : Int32))] := hD
        refine lv_iinc (v := (x1 + (1 : Int32))) (lv' := [(1, .int (x1 + (1 : Int32))), (0, .ref aT)]) hx hb dX6_clean_49 hl (k := 1) rfl (congrArg (fun z => x1 + z) k_iconst_1) (by decide) rfl (fun ls hl => ?_)
        refine lv_goto (tgt := 20) hx hb dX6_clean_52 (by decide) ?_
        exact hrc (upd (upd (upd vt (Int32.toNatClampNeg ((4 : Int32) + x1)) (9 : Int32)) (Int32.toNatClampNeg ((11 : Int32) + x1)) (-9 : Int32)) (Int32.toNatClampNeg ((18 : Int32) + x1)) (24 : Int32)) (x1 + (1 : Int32)) h _ _ _ hP hD hS (lv_sub hl [1, 0] rfl)
  unfold m_X6_clean at h
  refine lv_iconst (v := (0 : Int32)) hx hb dX6_clean_0 k_iconst_0 ?_
  refine lv_istore_n (lv' := [(1, .int (0 : Int32)), (0, .ref aT)]) hx hb dX6_clean_1 rfl hl (by decide) rfl (fun ls hl => ?_)
  obtain ⟨o2_1, ho2_1, h⟩ := bnd_some h
  refine L2 o2_1 (fun o2_1e er H locs ls hP hD hS hl => ?_) FU vt (0 : Int32) ho2_1 _ _ _ hP hD hS (lv_sub hl [1, 0] rfl)
  subst er
  refine lv_iconst (v := (0 : Int32)) hx hb dX6_clean_18 k_iconst_0 ?_
  refine lv_istore_n (lv' := [(1, .int (0 : Int32)), (0, .ref aT)]) hx hb dX6_clean_19 rfl hl (by decide) rfl (fun ls hl => ?_)
  obtain ⟨o20_2, ho20_2, h⟩ := bnd_some h
  refine L20 o20_2 (fun o20_2e er H locs ls hP hD hS hl => ?_) FU o2_1 (0 : Int32) ho20_2 _ _ _ hP hD hS (lv_sub hl [1, 0] rfl)
  subst er
  have hres := Option.some.inj h
  subst hres
  exact hRet 55 _ _ _ hP hD hS dX6_clean_55
abbrev rm_X6_type : Room := { frames := 1, cells := 0, slots := 0, locals := 25 }
theorem fi_X6_type_X6 : ∀ w ∈ wsX60, w ∈ wsX6_type := fun _ h => List.mem_cons_of_mem _ (List.mem_append_right _ h)
theorem hdV_X6_type : yX6_type.cls = RX6 ∧ yX6_type.cls ≠ "java/lang/invoke/MethodHandle" ∧ yX6_type.cls ≠ "java/lang/invoke/VarHandle" ∧ (parseMethodDescriptor yX6_type.desc).map (fun d => d.parameters.length) = some 1 := by decide +kernel
set_option maxRecDepth 100000 in
set_option maxHeartbeats 4000000 in
theorem c_X6_type (l : Launch) (G : va_G) (cI cZ : ClassId) (aM : Nat → Nat) (vT : Int64) (vM : Ob) (x1 : Int32) (res : Int32 × Ob) (h : m_X6_type vM x1 = some res) : Ct l yX6_type wsX6_type rm_X6_type G cI cZ [.ref (aM 0), .int x1] [oX6 aM vM vT, ai cI (aM 1) 70 (vM 1), ai cI (aM 2) 70 (vM 2), ai cI (aM 3) 40 (vM 3), ai cI (aM 4) 80 (vM 4), ai cZ (aM 5) 2 (vM 5), ai cI (aM 6) 200 (vM 6), ai cI (aM 8) 12 (vM 8), ai cI (aM 10) 12 (vM 10), ai cI (aM 18) 427 (vM 18), ai cI (aM 21) 100 (vM 21), ai cI (aM 23) 100 (vM 23), ai cI (aM 24) 100 (vM 24), ai cI (aM 26) 7 (vM 26), ai cI (aM 27) 5 (vM 27), ai cI (aM 28) 64 (vM 28)] (some (.int res.1)) [oX6 aM res.2 vT, ai cI (aM 1) 70 (res.2 1), ai cI (aM 2) 70 (res.2 2), ai cI (aM 3) 40 (res.2 3), ai cI (aM 4) 80 (res.2 4), ai cZ (aM 5) 2 (res.2 5), ai cI (aM 6) 200 (res.2 6), ai cI (aM 8) 12 (res.2 8), ai cI (aM 10) 12 (res.2 10), ai cI (aM 18) 427 (res.2 18), ai cI (aM 21) 100 (res.2 21), ai cI (aM 23) 100 (res.2 23), ai cI (aM 24) 100 (res.2 24), ai cI (aM 26) 7 (res.2 26), ai cI (aM 27) 5 (res.2 27), ai cI (aM 28) 64 (res.2 28)] := by
  refine Ct.of_i (maxL := 2) (by decide) rfl (Nat.le_of_ble_eq_true rfl) ?_
  intro p e s m below meth c args hx hb hml hown hts A hA hEN hP hD hS Q hRet ls hl
  have hown : s.vm.findClass RX6 = some m.cls := hown
  have hl : lv_has ls 2 [(0, .ref (aM 0)), (1, .int x1)] := hl
  unfold m_X6_type at h
  refine lv_iload_n hx hb dX6_type_0 rfl (lv_at hl 1 rfl) ?_
  refine lv_i2l (v := (Int32.toInt64 x1)) hx hb dX6_type_1 rfl ?_
  refine lv_lconst (v := (0 : Int64)) hx hb dX6_type_2 (by decide) ?_
  refine lv_ldc2 (v := (255 : Int64)) hx hb hown (hts (.constantLong RX6 64 (255)) (List.mem_of_getElem? (i := 1) rfl)) dX6_type_3 ?_
  obtain ⟨o6, ho6, h⟩ := bnd_some h
  refine call_S0 (As := [.long (Int32.toInt64 x1), .long (0 : Int64), .long (255 : Int64)]) (rest := []) ⟨hx, hb, hml, hown, hts⟩ (c_X6_in l G cI cZ  (Int32.toInt64 x1) (0 : Int64) (255 : Int64) o6 ho6) (va_cwS 3 hts gX6_type_X6_in rfl rfl rfl hdS_X6_in ⟨Nat.le_of_ble_eq_true rfl, Nat.le_of_ble_eq_true rfl⟩) hEN hA hP hD hS [] rfl (by decide) rfl hl.1 rfl (Nat.le_of_ble_eq_true rfl) dX6_type_6 ⟨Nat.le_of_ble_eq_true rfl, Nat.le_of_ble_eq_true rfl⟩ (fun H locs hP hS => ?_)
  refine lv_if_ne (tgt := 14) hx hb dX6_type_9 (by decide) (fun c9 => ?_) (fun c9 => ?_)
  · have h := (if_neg c9).symm.trans h
    refine lv_aload_n hx hb dX6_type_14 rfl (lv_at hl 0 rfl) ?_
    refine va_get (D := G) (ci := 6) (v := .int (vM 0 6)) (C := RX6) (T := TX6) (N := 29) hx hb hts fi_X6_type_X6 hown hEN.1 hP 0 rfl rfl 6 (by decide) (hts (.fieldLink RX6 66 "HourWellModel" "size" "I") (List.mem_of_getElem? (i := 2) rfl)) (fun _ h9 => h9) rfl dX6_type_15 ?_
    refine lv_sipush (v := (200 : Int32)) hx hb dX6_type_18 k_sipush_200 ?_
    refine lv_icmp_ne (tgt := 27) hx hb dX6_type_21 (by decide) (fun c21 => ?_) (fun c21 => ?_)
    · have h := (if_neg c21).symm.trans h
      refine lv_aload_n hx hb dX6_type_27 rfl (lv_at hl 0 rfl) ?_
      refine va_get (D := G) (ci := 6) (v := .ref (aM 6)) (C := RX6) (T := TX6) (N := 29) hx hb hts fi_X6_type_X6 hown hEN.1 hP 0 rfl rfl 5 (by decide) (hts (.fieldLink RX6 26 "HourWellModel" "text" "[I") (List.mem_of_getElem? (i := 3) rfl)) (fun _ h9 => h9) rfl dX6_type_28 ?_
      refine lv_aload_n hx hb dX6_type_31 rfl (lv_at hl 0 rfl) ?_
      refine va_get (D := G) (ci := 6) (v := .int (vM 0 6)) (C := RX6) (T := TX6) (N := 29) hx hb hts fi_X6_type_X6 hown hEN.1 hP 0 rfl rfl 6 (by decide) (hts (.fieldLink RX6 66 "HourWellModel" "size" "I") (List.mem_of_getElem? (i := 2) rfl)) (fun _ h9 => h9) rfl dX6_type_32 ?_
      refine lv_iload_n hx hb dX6_type_35 rfl (lv_at hl 1 rfl) ?_
      obtain ⟨hg36, h⟩ := grd_some h
      refine va_iast (f := (vM 6)) hx hb hEN.1 hP hD hS 6 0 rfl rfl (inb_in hg36) dX6_type_36 (fun H locs hP hD hS => ?_)
      have hP : va_P G vwCl [oX6 aM vM vT, ai cI (aM 1) 70 (vM 1), ai cI (aM 2) 70 (vM 2), ai cI (aM 3) 40 (vM 3), ai cI (aM 4) 80 (vM 4), ai cZ (aM 5) 2 (vM 5), ai cI (aM 6) 200 (upd (vM 6) (Int32.toNatClampNeg (vM 0 6)) x1), ai cI (aM 8) 12 (vM 8), ai cI (aM 10) 12 (vM 10), ai cI (aM 18) 427 (vM 18), ai cI (aM 21) 100 (vM 21), ai cI (aM 23) 100 (vM 23), ai cI (aM 24) 100 (vM 24), ai cI (aM 26) 7 (vM 26), ai cI (aM 27) 5 (vM 27), ai cI (aM 28) 64 (vM 28)] H := hP
      have hD : va_D A [oX6 aM vM vT, ai cI (aM 1) 70 (vM 1), ai cI (aM 2) 70 (vM 2), ai cI (aM 3) 40 (vM 3), ai cI (aM 4) 80 (vM 4), ai cZ (aM 5) 2 (vM 5), ai cI (aM 6) 200 (upd (vM 6) (Int32.toNatClampNeg (vM 0 6)) x1), ai cI (aM 8) 12 (vM 8), ai cI (aM 10) 12 (vM 10), ai cI (aM 18) 427 (vM 18), ai cI (aM 21) 100 (vM 21), ai cI (aM 23) 100 (vM 23), ai cI (aM 24) 100 (vM 24), ai cI (aM 26) 7 (vM 26), ai cI (aM 27) 5 (vM 27), ai cI (aM 28) 64 (vM 28)] := hD
      refine lv_aload_n hx hb dX6_type_37 rfl (lv_at hl 0 rfl) ?_
      refine lv_dup hx hb dX6_type_38 rfl ?_
      refine va_get (D := G) (ci := 6) (v := .int (vM 0 6)) (C := RX6) (T := TX6) (N := 29) hx hb hts fi_X6_type_X6 hown hEN.1 hP 0 rfl rfl 6 (by decide) (hts (.fieldLink RX6 66 "HourWellModel" "size" "I") (List.mem_of_getElem? (i := 2) rfl)) (fun _ h9 => h9) rfl dX6_type_39 ?_
      refine lv_iconst (v := (1 : Int32)) hx hb dX6_type_42 k_iconst_1 ?_
      refine lv_iadd hx hb dX6_type_43 ?_
      refine va_put (D := G) (ci := 6) (v := .int ((vM 0 6) + (1 : Int32))) (ty := .int) (C := RX6) (T := TX6) (N := 29) hx hb hts fi_X6_type_X6 tyX6 tyX6_ok nmX6 hown hEN.1 hP hD hS 0 rfl rfl 6 (by decide) (hts (.fieldLink RX6 66 "HourWellModel" "size" "I") (List.mem_of_getElem? (i := 2) rfl)) (fun _ h9 => h9) rfl (by decide +kernel) rfl rfl (Nat.le_of_ble_eq_true rfl) dX6_type_44 (fun H locs hP hD hS => ?_)
      have hP : va_P G vwCl [oX6 aM (st vM 0 6 ((vM 0 6) + (1 : Int32))) vT, ai cI (aM 1) 70 (vM 1), ai cI (aM 2) 70 (vM 2), ai cI (aM 3) 40 (vM 3), ai cI (aM 4) 80 (vM 4), ai cZ (aM 5) 2 (vM 5), ai cI (aM 6) 200 (upd (vM 6) (Int32.toNatClampNeg (vM 0 6)) x1), ai cI (aM 8) 12 (vM 8), ai cI (aM 10) 12 (vM 10), ai cI (aM 18) 427 (vM 18), ai cI (aM 21) 100 (vM 21), ai cI (aM 23) 100 (vM 23), ai cI (aM 24) 100 (vM 24), ai cI (aM 26) 7 (vM 26), ai cI (aM 27) 5 (vM 27), ai cI (aM 28) 64 (vM 28)] H := hP
      have hD : va_D A [oX6 aM (st vM 0 6 ((vM 0 6) + (1 : Int32))) vT, ai cI (aM 1) 70 (vM 1), ai cI (aM 2) 70 (vM 2), ai cI (aM 3) 40 (vM 3), ai cI (aM 4) 80 (vM 4), ai cZ (aM 5) 2 (vM 5), ai cI (aM 6) 200 (upd (vM 6) (Int32.toNatClampNeg (vM 0 6)) x1), ai cI (aM 8) 12 (vM 8), ai cI (aM 10) 12 (vM 10), ai cI (aM 18) 427 (vM 18), ai cI (aM 21) 100 (vM 21), ai cI (aM 23) 100 (vM 23), ai cI (aM 24) 100 (vM 24), ai cI (aM 26) 7 (vM 26), ai cI (aM 27) 5 (vM 27), ai cI (aM 28) 64 (vM 28)] := hD
      refine lv_aload_n hx hb dX6_type_47 rfl (lv_at hl 0 rfl) ?_
      refine va_get (D := G) (ci := 6) (v := .int ((vM 0 6) + (1 : Int32))) (C := RX6) (T := TX6) (N := 29) hx hb hts fi_X6_type_X6 hown hEN.1 hP 0 rfl rfl 6 (by decide) (hts (.fieldLink RX6 66 "HourWellModel" "size" "I") (List.mem_of_getElem? (i := 2) rfl)) (fun _ h9 => h9) rfl dX6_type_48 ?_
      have hres := Option.some.inj h
      subst hres
      exact hRet 51 _ _ _ hP hD hS dX6_type_51
    · have h := (if_pos c21).symm.trans h
      refine lv_bipush (v := (-3 : Int32)) hx hb dX6_type_24 k_bipush_n3 ?_
      have hres := Option.some.inj h
      subst hres
      exact hRet 26 _ _ _ hP hD hS dX6_type_26
  · have h := (if_pos c9).symm.trans h
    refine lv_iconst (v := (-1 : Int32)) hx hb dX6_type_12 k_iconst_n1 ?_
    have hres := Option.some.inj h
    subst hres
    exact hRet 13 _ _ _ hP hD hS dX6_type_13
abbrev rm_X6_clear : Room := { frames := 0, cells := 0, slots := 0, locals := 0 }
theorem fi_X6_clear_X6 : ∀ w ∈ wsX60, w ∈ wsX6_clear := fun _ h => List.mem_cons_of_mem _ (List.mem_append_right _ h)
theorem hdV_X6_clear : yX6_clear.cls = RX6 ∧ yX6_clear.cls ≠ "java/lang/invoke/MethodHandle" ∧ yX6_clear.cls ≠ "java/lang/invoke/VarHandle" ∧ (parseMethodDescriptor yX6_clear.desc).map (fun d => d.parameters.length) = some 0 := by decide +kernel
set_option maxRecDepth 100000 in
set_option maxHeartbeats 4000000 in
theorem c_X6_clear (l : Launch) (G : va_G) (cI cZ : ClassId) (aM : Nat → Nat) (vT : Int64) (vM : Ob)  (res : Int32 × Ob) (h : m_X6_clear vM  = some res) : Ct l yX6_clear wsX6_clear rm_X6_clear G cI cZ [.ref (aM 0)] [oX6 aM vM vT, ai cI (aM 1) 70 (vM 1), ai cI (aM 2) 70 (vM 2), ai cI (aM 3) 40 (vM 3), ai cI (aM 4) 80 (vM 4), ai cZ (aM 5) 2 (vM 5), ai cI (aM 6) 200 (vM 6), ai cI (aM 8) 12 (vM 8), ai cI (aM 10) 12 (vM 10), ai cI (aM 18) 427 (vM 18), ai cI (aM 21) 100 (vM 21), ai cI (aM 23) 100 (vM 23), ai cI (aM 24) 100 (vM 24), ai cI (aM 26) 7 (vM 26), ai cI (aM 27) 5 (vM 27), ai cI (aM 28) 64 (vM 28)] (some (.int res.1)) [oX6 aM res.2 vT, ai cI (aM 1) 70 (res.2 1), ai cI (aM 2) 70 (res.2 2), ai cI (aM 3) 40 (res.2 3), ai cI (aM 4) 80 (res.2 4), ai cZ (aM 5) 2 (res.2 5), ai cI (aM 6) 200 (res.2 6), ai cI (aM 8) 12 (res.2 8), ai cI (aM 10) 12 (res.2 10), ai cI (aM 18) 427 (res.2 18), ai cI (aM 21) 100 (res.2 21), ai cI (aM 23) 100 (res.2 23), ai cI (aM 24) 100 (res.2 24), ai cI (aM 26) 7 (res.2 26), ai cI (aM 27) 5 (res.2 27), ai cI (aM 28) 64 (res.2 28)] := by
  refine Ct.of_i (maxL := 2) (by decide) rfl (Nat.le_of_ble_eq_true rfl) ?_
  intro p e s m below meth c args hx hb hml hown hts A hA hEN hP hD hS Q hRet ls hl
  have hown : s.vm.findClass RX6 = some m.cls := hown
  have hl : lv_has ls 2 [(0, .ref (aM 0))] := hl
  unfold m_X6_clear at h
  refine lv_aload_n hx hb dX6_clear_0 rfl (lv_at hl 0 rfl) ?_
  refine va_get (D := G) (ci := 6) (v := .int (vM 0 6)) (C := RX6) (T := TX6) (N := 29) hx hb hts fi_X6_clear_X6 hown hEN.1 hP 0 rfl rfl 6 (by decide) (hts (.fieldLink RX6 66 "HourWellModel" "size" "I") (List.mem_of_getElem? (i := 1) rfl)) (fun _ h9 => h9) rfl dX6_clear_1 ?_
  refine lv_istore_n (lv' := [(1, .int (vM 0 6)), (0, .ref (aM 0))]) hx hb dX6_clear_4 rfl hl (by decide) rfl (fun ls hl => ?_)
  refine lv_aload_n hx hb dX6_clear_5 rfl (lv_at hl 1 rfl) ?_
  refine lv_iconst (v := (0 : Int32)) hx hb dX6_clear_6 k_iconst_0 ?_
  refine va_put (D := G) (ci := 6) (v := .int (0 : Int32)) (ty := .int) (C := RX6) (T := TX6) (N := 29) hx hb hts fi_X6_clear_X6 tyX6 tyX6_ok nmX6 hown hEN.1 hP hD hS 0 rfl rfl 6 (by decide) (hts (.fieldLink RX6 66 "HourWellModel" "size" "I") (List.mem_of_getElem? (i := 1) rfl)) (fun _ h9 => h9) rfl (by decide +kernel) rfl rfl (Nat.le_of_ble_eq_true rfl) dX6_clear_7 (fun H locs hP hD hS => ?_)
  have hP : va_P G vwCl [oX6 aM (st vM 0 6 (0 : Int32)) vT, ai cI (aM 1) 70 (vM 1), ai cI (aM 2) 70 (vM 2), ai cI (aM 3) 40 (vM 3), ai cI (aM 4) 80 (vM 4), ai cZ (aM 5) 2 (vM 5), ai cI (aM 6) 200 (vM 6), ai cI (aM 8) 12 (vM 8), ai cI (aM 10) 12 (vM 10), ai cI (aM 18) 427 (vM 18), ai cI (aM 21) 100 (vM 21), ai cI (aM 23) 100 (vM 23), ai cI (aM 24) 100 (vM 24), ai cI (aM 26) 7 (vM 26), ai cI (aM 27) 5 (vM 27), ai cI (aM 28) 64 (vM 28)] H := hP
  have hD : va_D A [oX6 aM (st vM 0 6 (0 : Int32)) vT, ai cI (aM 1) 70 (vM 1), ai cI (aM 2) 70 (vM 2), ai cI (aM 3) 40 (vM 3), ai cI (aM 4) 80 (vM 4), ai cZ (aM 5) 2 (vM 5), ai cI (aM 6) 200 (vM 6), ai cI (aM 8) 12 (vM 8), ai cI (aM 10) 12 (vM 10), ai cI (aM 18) 427 (vM 18), ai cI (aM 21) 100 (vM 21), ai cI (aM 23) 100 (vM 23), ai cI (aM 24) 100 (vM 24), ai cI (aM 26) 7 (vM 26), ai cI (aM 27) 5 (vM 27), ai cI (aM 28) 64 (vM 28)] := hD
  refine lv_iload_n hx hb dX6_clear_10 rfl (lv_at hl 0 rfl) ?_
  have hres := Option.some.inj h
  subst hres
  exact hRet 11 _ _ _ hP hD hS dX6_clear_11
abbrev rm_X6_isLetter : Room := { frames := 1, cells := 0, slots := 0, locals := 25 }
theorem hdS_X6_isLetter : yX6_isLetter.cls ≠ "java/lang/invoke/MethodHandle" ∧ yX6_isLetter.cls ≠ "java/lang/invoke/VarHandle" ∧ (parseMethodDescriptor yX6_isLetter.desc).map (fun d => d.parameters.length) = some 1 := by decide +kernel
set_option maxRecDepth 100000 in
set_option maxHeartbeats 4000000 in
theorem c_X6_isLetter (l : Launch) (G : va_G) (cI cZ : ClassId)   (x0 : Int32) (res : Int32) (h : m_X6_isLetter  x0 = some res) : Ct l yX6_isLetter wsX6_isLetter rm_X6_isLetter G cI cZ [.int x0] [] (some (.int res)) [] := by
  refine Ct.of_z (maxL := 1) (by decide) rfl (Nat.le_of_ble_eq_true rfl) ?_
  intro p e s m below meth c args hx hb hml hown hts A hA hEN hP hD hS Q hRet ls hl
  have hown : s.vm.findClass RX6 = some m.cls := hown
  have hl : lv_has ls 1 [(0, .int x0)] := hl
  unfold m_X6_isLetter at h
  refine lv_iload_n hx hb dX6_isLetter_0 rfl (lv_at hl 0 rfl) ?_
  refine lv_i2l (v := (Int32.toInt64 x0)) hx hb dX6_isLetter_1 rfl ?_
  refine lv_ldc2 (v := (97 : Int64)) hx hb hown (hts (.constantLong RX6 70 (97)) (List.mem_of_getElem? (i := 1) rfl)) dX6_isLetter_2 ?_
  refine lv_ldc2 (v := (122 : Int64)) hx hb hown (hts (.constantLong RX6 72 (122)) (List.mem_of_getElem? (i := 2) rfl)) dX6_isLetter_5 ?_
  obtain ⟨o8, ho8, h⟩ := bnd_some h
  refine call_S0 (As := [.long (Int32.toInt64 x0), .long (97 : Int64), .long (122 : Int64)]) (rest := []) ⟨hx, hb, hml, hown, hts⟩ (c_X6_in l G cI cZ  (Int32.toInt64 x0) (97 : Int64) (122 : Int64) o8 ho8) (va_cwS 3 hts gX6_isLetter_X6_in rfl rfl rfl hdS_X6_in ⟨Nat.le_of_ble_eq_true rfl, Nat.le_of_ble_eq_true rfl⟩) hEN hA hP hD hS [] rfl (by decide) rfl hl.1 rfl (Nat.le_of_ble_eq_true rfl) dX6_isLetter_8 ⟨Nat.le_of_ble_eq_true rfl, Nat.le_of_ble_eq_true rfl⟩ (fun H locs hP hS => ?_)
  obtain ⟨hg11, h⟩ := grd_some h
  have hres := Option.some.inj h
  subst hres
  exact hRet 11 (bz_n hg11) _ _ _ hP hD hS dX6_isLetter_11
abbrev rm_X6_isFigure : Room := { frames := 1, cells := 0, slots := 0, locals := 25 }
theorem hdS_X6_isFigure : yX6_isFigure.cls ≠ "java/lang/invoke/MethodHandle" ∧ yX6_isFigure.cls ≠ "java/lang/invoke/VarHandle" ∧ (parseMethodDescriptor yX6_isFigure.desc).map (fun d => d.parameters.length) = some 1 := by decide +kernel
set_option maxRecDepth 100000 in
set_option maxHeartbeats 4000000 in
theorem c_X6_isFigure (l : Launch) (G : va_G) (cI cZ : ClassId)   (x0 : Int32) (res : Int32) (h : m_X6_isFigure  x0 = some res) : Ct l yX6_isFigure wsX6_isFigure rm_X6_isFigure G cI cZ [.int x0] [] (some (.int res)) [] := by
  refine Ct.of_z (maxL := 1) (by decide) rfl (Nat.le_of_ble_eq_true rfl) ?_
  intro p e s m below meth c args hx hb hml hown hts A hA hEN hP hD hS Q hRet ls hl
  have hown : s.vm.findClass RX6 = some m.cls := hown
  have hl : lv_has ls 1 [(0, .int x0)] := hl
  unfold m_X6_isFigure at h
  refine lv_iload_n hx hb dX6_isFigure_0 rfl (lv_at hl 0 rfl) ?_
  refine lv_i2l (v := (Int32.toInt64 x0)) hx hb dX6_isFigure_1 rfl ?_
  refine lv_ldc2 (v := (48 : Int64)) hx hb hown (hts (.constantLong RX6 74 (48)) (List.mem_of_getElem? (i := 1) rfl)) dX6_isFigure_2 ?_
  refine lv_ldc2 (v := (57 : Int64)) hx hb hown (hts (.constantLong RX6 76 (57)) (List.mem_of_getElem? (i := 2) rfl)) dX6_isFigure_5 ?_
  obtain ⟨o8, ho8, h⟩ := bnd_some h
  refine call_S0 (As := [.long (Int32.toInt64 x0), .long (48 : Int64), .long (57 : Int64)]) (rest := []) ⟨hx, hb, hml, hown, hts⟩ (c_X6_in l G cI cZ  (Int32.toInt64 x0) (48 : Int64) (57 : Int64) o8 ho8) (va_cwS 3 hts gX6_isFigure_X6_in rfl rfl rfl hdS_X6_in ⟨Nat.le_of_ble_eq_true rfl, Nat.le_of_ble_eq_true rfl⟩) hEN hA hP hD hS [] rfl (by decide) rfl hl.1 rfl (Nat.le_of_ble_eq_true rfl) dX6_isFigure_8 ⟨Nat.le_of_ble_eq_true rfl, Nat.le_of_ble_eq_true rfl⟩ (fun H locs hP hS => ?_)
  obtain ⟨hg11, h⟩ := grd_some h
  have hres := Option.some.inj h
  subst hres
  exact hRet 11 (bz_n hg11) _ _ _ hP hD hS dX6_isFigure_11
abbrev rm_X6_here : Room := { frames := 0, cells := 0, slots := 0, locals := 0 }
theorem fi_X6_here_X6 : ∀ w ∈ wsX60, w ∈ wsX6_here := fun _ h => List.mem_cons_of_mem _ (List.mem_append_right _ h)
theorem hdV_X6_here : yX6_here.cls = RX6 ∧ yX6_here.cls ≠ "java/lang/invoke/MethodHandle" ∧ yX6_here.cls ≠ "java/lang/invoke/VarHandle" ∧ (parseMethodDescriptor yX6_here.desc).map (fun d => d.parameters.length) = some 0 := by decide +kernel
set_option maxRecDepth 100000 in
set_option maxHeartbeats 4000000 in
theorem c_X6_here (l : Launch) (G : va_G) (cI cZ : ClassId) (aM : Nat → Nat) (vT : Int64) (vM : Ob)  (res : Int32) (h : m_X6_here vM  = some res) : Ct l yX6_here wsX6_here rm_X6_here G cI cZ [.ref (aM 0)] [oX6 aM vM vT, ai cI (aM 6) 200 (vM 6)] (some (.int res)) [oX6 aM vM vT, ai cI (aM 6) 200 (vM 6)] := by
  refine Ct.of_i (maxL := 1) (by decide) rfl (Nat.le_of_ble_eq_true rfl) ?_
  intro p e s m below meth c args hx hb hml hown hts A hA hEN hP hD hS Q hRet ls hl
  have hown : s.vm.findClass RX6 = some m.cls := hown
  have hl : lv_has ls 1 [(0, .ref (aM 0))] := hl
  unfold m_X6_here at h
  refine lv_aload_n hx hb dX6_here_0 rfl (lv_at hl 0 rfl) ?_
  refine va_get (D := G) (ci := 6) (v := .int (vM 0 12)) (C := RX6) (T := TX6) (N := 29) hx hb hts fi_X6_here_X6 hown hEN.1 hP 0 rfl rfl 12 (by decide) (hts (.fieldLink RX6 78 "HourWellModel" "at" "I") (List.mem_of_getElem? (i := 1) rfl)) (fun _ h9 => h9) rfl dX6_here_1 ?_
  refine lv_aload_n hx hb dX6_here_4 rfl (lv_at hl 0 rfl) ?_
  refine va_get (D := G) (ci := 6) (v := .int (vM 0 6)) (C := RX6) (T := TX6) (N := 29) hx hb hts fi_X6_here_X6 hown hEN.1 hP 0 rfl rfl 6 (by decide) (hts (.fieldLink RX6 66 "HourWellModel" "size" "I") (List.mem_of_getElem? (i := 2) rfl)) (fun _ h9 => h9) rfl dX6_here_5 ?_
  refine lv_icmp_ge (tgt := 23) hx hb dX6_here_8 (by decide) (fun c8 => ?_) (fun c8 => ?_)
  · have h := (if_pos c8).symm.trans h
    refine lv_iconst (v := (-1 : Int32)) hx hb dX6_here_23 k_iconst_n1 ?_
    have hres := Option.some.inj h
    subst hres
    exact hRet 24 _ _ _ hP hD hS dX6_here_24
  · have h := (if_neg c8).symm.trans h
    refine lv_aload_n hx hb dX6_here_11 rfl (lv_at hl 0 rfl) ?_
    refine va_get (D := G) (ci := 6) (v := .ref (aM 6)) (C := RX6) (T := TX6) (N := 29) hx hb hts fi_X6_here_X6 hown hEN.1 hP 0 rfl rfl 5 (by decide) (hts (.fieldLink RX6 26 "HourWellModel" "text" "[I") (List.mem_of_getElem? (i := 3) rfl)) (fun _ h9 => h9) rfl dX6_here_12 ?_
    refine lv_aload_n hx hb dX6_here_15 rfl (lv_at hl 0 rfl) ?_
    refine va_get (D := G) (ci := 6) (v := .int (vM 0 12)) (C := RX6) (T := TX6) (N := 29) hx hb hts fi_X6_here_X6 hown hEN.1 hP 0 rfl rfl 12 (by decide) (hts (.fieldLink RX6 78 "HourWellModel" "at" "I") (List.mem_of_getElem? (i := 1) rfl)) (fun _ h9 => h9) rfl dX6_here_16 ?_
    obtain ⟨hg19, h⟩ := grd_some h
    refine va_iald (f := (vM 6)) hx hb hEN.1 hP 1 0 rfl rfl (inb_in hg19) dX6_here_19 ?_
    refine lv_goto (tgt := 24) hx hb dX6_here_20 (by decide) ?_
    have hres := Option.some.inj h
    subst hres
    exact hRet 24 _ _ _ hP hD hS dX6_here_24
abbrev rm_X6_next : Room := { frames := 2, cells := 0, slots := 0, locals := 45 }
theorem fi_X6_next_X6 : ∀ w ∈ wsX60, w ∈ wsX6_next := fun _ h => List.mem_cons_of_mem _ (List.mem_append_right _ h)
theorem hdV_X6_next : yX6_next.cls = RX6 ∧ yX6_next.cls ≠ "java/lang/invoke/MethodHandle" ∧ yX6_next.cls ≠ "java/lang/invoke/VarHandle" ∧ (parseMethodDescriptor yX6_next.desc).map (fun d => d.parameters.length) = some 0 := by decide +kernel
set_option maxRecDepth 100000 in
set_option maxHeartbeats 4000000 in
theorem c_X6_next (l : Launch) (G : va_G) (cI cZ : ClassId) (aM : Nat → Nat) (vT : Int64) (vM : Ob)  (res : Ob) (h : m_X6_next vM  = some res) : Ct l yX6_next wsX6_next rm_X6_next G cI cZ [.ref (aM 0)] [oX6 aM vM vT, ai cI (aM 1) 70 (vM 1), ai cI (aM 2) 70 (vM 2), ai cI (aM 3) 40 (vM 3), ai cI (aM 4) 80 (vM 4), ai cZ (aM 5) 2 (vM 5), ai cI (aM 6) 200 (vM 6), ai cI (aM 8) 12 (vM 8), ai cI (aM 10) 12 (vM 10), ai cI (aM 18) 427 (vM 18), ai cI (aM 21) 100 (vM 21), ai cI (aM 23) 100 (vM 23), ai cI (aM 24) 100 (vM 24), ai cI (aM 26) 7 (vM 26), ai cI (aM 27) 5 (vM 27), ai cI (aM 28) 64 (vM 28)] none [oX6 aM res vT, ai cI (aM 1) 70 (res 1), ai cI (aM 2) 70 (res 2), ai cI (aM 3) 40 (res 3), ai cI (aM 4) 80 (res 4), ai cZ (aM 5) 2 (res 5), ai cI (aM 6) 200 (res 6), ai cI (aM 8) 12 (res 8), ai cI (aM 10) 12 (res 10), ai cI (aM 18) 427 (res 18), ai cI (aM 21) 100 (res 21), ai cI (aM 23) 100 (res 23), ai cI (aM 24) 100 (res 24), ai cI (aM 26) 7 (res 26), ai cI (aM 27) 5 (res 27), ai cI (aM 28) 64 (res 28)] := by
  refine Ct.of_v (maxL := 3) (by decide) rfl (Nat.le_of_ble_eq_true rfl) ?_
  intro p e s m below meth c args hx hb hml hown hts A hA hEN hP hD hS Q hRet ls hl
  have hown : s.vm.findClass RX6 = some m.cls := hown
  have hl : lv_has ls 3 [(0, .ref (aM 0))] := hl
  have L0 : ∀ (out : Ob), (∀ ex : Ob, out = ex → ∀ (H : Heap) (locs : List Loc) (ls : Array Slot), va_P G vwCl [oX6 aM ex vT, ai cI (aM 1) 70 (ex 1), ai cI (aM 2) 70 (ex 2), ai cI (aM 3) 40 (ex 3), ai cI (aM 4) 80 (ex 4), ai cZ (aM 5) 2 (ex 5), ai cI (aM 6) 200 (ex 6), ai cI (aM 8) 12 (ex 8), ai cI (aM 10) 12 (ex 10), ai cI (aM 18) 427 (ex 18), ai cI (aM 21) 100 (ex 21), ai cI (aM 23) 100 (ex 23), ai cI (aM 24) 100 (ex 24), ai cI (aM 26) 7 (ex 26), ai cI (aM 27) 5 (ex 27), ai cI (aM 28) 64 (ex 28)] H → va_D A [oX6 aM ex vT, ai cI (aM 1) 70 (ex 1), ai cI (aM 2) 70 (ex 2), ai cI (aM 3) 40 (ex 3), ai cI (aM 4) 80 (ex 4), ai cZ (aM 5) 2 (ex 5), ai cI (aM 6) 200 (ex 6), ai cI (aM 8) 12 (ex 8), ai cI (aM 10) 12 (ex 10), ai cI (aM 18) 427 (ex 18), ai cI (aM 21) 100 (ex 21), ai cI (aM 23) 100 (ex 23), ai cI (aM 24) 100 (ex 24), ai cI (aM 26) 7 (ex 26), ai cI (aM 27) 5 (ex 27), ai cI (aM 28) 64 (ex 28)] → va_S A s.heap H locs → lv_has ls 3 [(0, .ref (aM 0))] → W p l e rm_X6_next s m args below meth c H locs 0 0 Q (F0 m 22 ls [])) → ∀ (n : Nat) (vM : Ob), m_X6_next_L0  n vM = some out → ∀ (H : Heap) (locs : List Loc) (ls : Array Slot), va_P G vwCl [oX6 aM vM vT, ai cI (aM 1) 70 (vM 1), ai cI (aM 2) 70 (vM 2), ai cI (aM 3) 40 (vM 3), ai cI (aM 4) 80 (vM 4), ai cZ (aM 5) 2 (vM 5), ai cI (aM 6) 200 (vM 6), ai cI (aM 8) 12 (vM 8), ai cI (aM 10) 12 (vM 10), ai cI (aM 18) 427 (vM 18), ai cI (aM 21) 100 (vM 21), ai cI (aM 23) 100 (vM 23), ai cI (aM 24) 100 (vM 24), ai cI (aM 26) 7 (vM 26), ai cI (aM 27) 5 (vM 27), ai cI (aM 28) 64 (vM 28)] H → va_D A [oX6 aM vM vT, ai cI (aM 1) 70 (vM 1), ai cI (aM 2) 70 (vM 2), ai cI (aM 3) 40 (vM 3), ai cI (aM 4) 80 (vM 4), ai cZ (aM 5) 2 (vM 5), ai cI (aM 6) 200 (vM 6), ai cI (aM 8) 12 (vM 8), ai cI (aM 10) 12 (vM 10), ai cI (aM 18) 427 (vM 18), ai cI (aM 21) 100 (vM 21), ai cI (aM 23) 100 (vM 23), ai cI (aM 24) 100 (vM 24), ai cI (aM 26) 7 (vM 26), ai cI (aM 27) 5 (vM 27), ai cI (aM 28) 64 (vM 28)] → va_S A s.heap H locs → lv_has ls 3 [(0, .ref (aM 0))] → W p l e rm_X6_next s m args below meth c H locs 0 0 Q (F0 m 0 ls []) := by
    intro out hKx
    intro n
    induction n with
    | zero => intro vM h; exact nomatch (show (none : Option (Ob)) = some out from h)
    | succ n hrc =>
      intro vM h H locs ls hP hD hS hl
      have h : m_X6_next_L0B  (m_X6_next_L0  n) vM = some out := h
      generalize m_X6_next_L0  n = rc at h hrc
      unfold m_X6_next_L0B at h
      refine lv_aload_n hx hb dX6_next_0 rfl (lv_at hl 0 rfl) ?_
      obtain ⟨o1, ho1, h⟩ := bnd_some h
      refine call_V0 (As := []) (rest := []) ⟨hx, hb, hml, hown, hts⟩ (c_X6_here l G cI cZ aM vT vM o1 ho1) (cwV 0 hts gX6_next_X6_here rfl rfl rfl hdV_X6_here ⟨Nat.le_of_ble_eq_true rfl, Nat.le_of_ble_eq_true rfl⟩) hEN hA hP hD hS [0, 6] rfl (by decide) 0 rfl rfl rfl hl.1 rfl (Nat.le_of_ble_eq_true rfl) dX6_next_1 ⟨Nat.le_of_ble_eq_true rfl, Nat.le_of_ble_eq_true rfl⟩ (fun H locs hP hS => ?_)
      refine lv_bipush (v := (32 : Int32)) hx hb dX6_next_4 k_bipush_32 ?_
      refine lv_icmp_ne (tgt := 22) hx hb dX6_next_6 (by decide) (fun c6 => ?_) (fun c6 => ?_)
      · have h := (if_neg c6).symm.trans h
        exact hKx _ (Option.some.inj h).symm _ _ _ hP hD hS (lv_sub hl [0] rfl)
      · have h := (if_pos c6).symm.trans h
        refine lv_aload_n hx hb dX6_next_9 rfl (lv_at hl 0 rfl) ?_
        refine lv_dup hx hb dX6_next_10 rfl ?_
        refine va_get (D := G) (ci := 6) (v := .int (vM 0 12)) (C := RX6) (T := TX6) (N := 29) hx hb hts fi_X6_next_X6 hown hEN.1 hP 0 rfl rfl 12 (by decide) (hts (.fieldLink RX6 78 "HourWellModel" "at" "I") (List.mem_of_getElem? (i := 1) rfl)) (fun _ h9 => h9) rfl dX6_next_11 ?_
        refine lv_iconst (v := (1 : Int32)) hx hb dX6_next_14 k_iconst_1 ?_
        refine lv_iadd hx hb dX6_next_15 ?_
        refine va_put (D := G) (ci := 6) (v := .int ((vM 0 12) + (1 : Int32))) (ty := .int) (C := RX6) (T := TX6) (N := 29) hx hb hts fi_X6_next_X6 tyX6 tyX6_ok nmX6 hown hEN.1 hP hD hS 0 rfl rfl 12 (by decide) (hts (.fieldLink RX6 78 "HourWellModel" "at" "I") (List.mem_of_getElem? (i := 1) rfl)) (fun _ h9 => h9) rfl (by decide +kernel) rfl rfl (Nat.le_of_ble_eq_true rfl) dX6_next_16 (fun H locs hP hD hS => ?_)
        have hP : va_P G vwCl [oX6 aM (st vM 0 12 ((vM 0 12) + (1 : Int32))) vT, ai cI (aM 1) 70 (vM 1), ai cI (aM 2) 70 (vM 2), ai cI (aM 3) 40 (vM 3), ai cI (aM 4) 80 (vM 4), ai cZ (aM 5) 2 (vM 5), ai cI (aM 6) 200 (vM 6), ai cI (aM 8) 12 (vM 8), ai cI (aM 10) 12 (vM 10), ai cI (aM 18) 427 (vM 18), ai cI (aM 21) 100 (vM 21), ai cI (aM 23) 100 (vM 23), ai cI (aM 24) 100 (vM 24), ai cI (aM 26) 7 (vM 26), ai cI (aM 27) 5 (vM 27), ai cI (aM 28) 64 (vM 28)] H := hP
        have hD : va_D A [oX6 aM (st vM 0 12 ((vM 0 12) + (1 : Int32))) vT, ai cI (aM 1) 70 (vM 1), ai cI (aM 2) 70 (vM 2), ai cI (aM 3) 40 (vM 3), ai cI (aM 4) 80 (vM 4), ai cZ (aM 5) 2 (vM 5), ai cI (aM 6) 200 (vM 6), ai cI (aM 8) 12 (vM 8), ai cI (aM 10) 12 (vM 10), ai cI (aM 18) 427 (vM 18), ai cI (aM 21) 100 (vM 21), ai cI (aM 23) 100 (vM 23), ai cI (aM 24) 100 (vM 24), ai cI (aM 26) 7 (vM 26), ai cI (aM 27) 5 (vM 27), ai cI (aM 28) 64 (vM 28)] := hD
        refine lv_goto (tgt := 0) hx hb dX6_next_19 (by decide) ?_
        exact hrc (st vM 0 12 ((vM 0 12) + (1 : Int32))) h _ _ _ hP hD hS (lv_sub hl [0] rfl)
  have L107 : ∀ (out : Ob × Int32), (∀ ex : Ob × Int32, out = ex → ∀ (H : Heap) (locs : List Loc) (ls : Array Slot), va_P G vwCl [oX6 aM ex.1 vT, ai cI (aM 1) 70 (ex.1 1), ai cI (aM 2) 70 (ex.1 2), ai cI (aM 3) 40 (ex.1 3), ai cI (aM 4) 80 (ex.1 4), ai cZ (aM 5) 2 (ex.1 5), ai cI (aM 6) 200 (ex.1 6), ai cI (aM 8) 12 (ex.1 8), ai cI (aM 10) 12 (ex.1 10), ai cI (aM 18) 427 (ex.1 18), ai cI (aM 21) 100 (ex.1 21), ai cI (aM 23) 100 (ex.1 23), ai cI (aM 24) 100 (ex.1 24), ai cI (aM 26) 7 (ex.1 26), ai cI (aM 27) 5 (ex.1 27), ai cI (aM 28) 64 (ex.1 28)] H → va_D A [oX6 aM ex.1 vT, ai cI (aM 1) 70 (ex.1 1), ai cI (aM 2) 70 (ex.1 2), ai cI (aM 3) 40 (ex.1 3), ai cI (aM 4) 80 (ex.1 4), ai cZ (aM 5) 2 (ex.1 5), ai cI (aM 6) 200 (ex.1 6), ai cI (aM 8) 12 (ex.1 8), ai cI (aM 10) 12 (ex.1 10), ai cI (aM 18) 427 (ex.1 18), ai cI (aM 21) 100 (ex.1 21), ai cI (aM 23) 100 (ex.1 23), ai cI (aM 24) 100 (ex.1 24), ai cI (aM 26) 7 (ex.1 26), ai cI (aM 27) 5 (ex.1 27), ai cI (aM 28) 64 (ex.1 28)] → va_S A s.heap H locs → lv_has ls 3 [(0, .ref (aM 0)), (1, .int ex.2)] → W p l e rm_X6_next s m args below meth c H locs 0 0 Q (F0 m 158 ls [])) → ∀ (n : Nat) (vM : Ob) (x1 : Int32), m_X6_next_L107  n vM x1 = some out → ∀ (H : Heap) (locs : List Loc) (ls : Array Slot), va_P G vwCl [oX6 aM vM vT, ai cI (aM 1) 70 (vM 1), ai cI (aM 2) 70 (vM 2), ai cI (aM 3) 40 (vM 3), ai cI (aM 4) 80 (vM 4), ai cZ (aM 5) 2 (vM 5), ai cI (aM 6) 200 (vM 6), ai cI (aM 8) 12 (vM 8), ai cI (aM 10) 12 (vM 10), ai cI (aM 18) 427 (vM 18), ai cI (aM 21) 100 (vM 21), ai cI (aM 23) 100 (vM 23), ai cI (aM 24) 100 (vM 24), ai cI (aM 26) 7 (vM 26), ai cI (aM 27) 5 (vM 27), ai cI (aM 28) 64 (vM 28)] H → va_D A [oX6 aM vM vT, ai cI (aM 1) 70 (vM 1), ai cI (aM 2) 70 (vM 2), ai cI (aM 3) 40 (vM 3), ai cI (aM 4) 80 (vM 4), ai cZ (aM 5) 2 (vM 5), ai cI (aM 6) 200 (vM 6), ai cI (aM 8) 12 (vM 8), ai cI (aM 10) 12 (vM 10), ai cI (aM 18) 427 (vM 18), ai cI (aM 21) 100 (vM 21), ai cI (aM 23) 100 (vM 23), ai cI (aM 24) 100 (vM 24), ai cI (aM 26) 7 (vM 26), ai cI (aM 27) 5 (vM 27), ai cI (aM 28) 64 (vM 28)] → va_S A s.heap H locs → lv_has ls 3 [(0, .ref (aM 0)), (1, .int x1)] → W p l e rm_X6_next s m args below meth c H locs 0 0 Q (F0 m 107 ls []) := by
    intro out hKx
    have j142 : ∀ (rc : Ob → Int32 → Option (Ob × Int32)), (∀ (vM : Ob) (x1 : Int32), rc vM x1 = some out → ∀ (H : Heap) (locs : List Loc) (ls : Array Slot), va_P G vwCl [oX6 aM vM vT, ai cI (aM 1) 70 (vM 1), ai cI (aM 2) 70 (vM 2), ai cI (aM 3) 40 (vM 3), ai cI (aM 4) 80 (vM 4), ai cZ (aM 5) 2 (vM 5), ai cI (aM 6) 200 (vM 6), ai cI (aM 8) 12 (vM 8), ai cI (aM 10) 12 (vM 10), ai cI (aM 18) 427 (vM 18), ai cI (aM 21) 100 (vM 21), ai cI (aM 23) 100 (vM 23), ai cI (aM 24) 100 (vM 24), ai cI (aM 26) 7 (vM 26), ai cI (aM 27) 5 (vM 27), ai cI (aM 28) 64 (vM 28)] H → va_D A [oX6 aM vM vT, ai cI (aM 1) 70 (vM 1), ai cI (aM 2) 70 (vM 2), ai cI (aM 3) 40 (vM 3), ai cI (aM 4) 80 (vM 4), ai cZ (aM 5) 2 (vM 5), ai cI (aM 6) 200 (vM 6), ai cI (aM 8) 12 (vM 8), ai cI (aM 10) 12 (vM 10), ai cI (aM 18) 427 (vM 18), ai cI (aM 21) 100 (vM 21), ai cI (aM 23) 100 (vM 23), ai cI (aM 24) 100 (vM 24), ai cI (aM 26) 7 (vM 26), ai cI (aM 27) 5 (vM 27), ai cI (aM 28) 64 (vM 28)] → va_S A s.heap H locs → lv_has ls 3 [(0, .ref (aM 0)), (1, .int x1)] → W p l e rm_X6_next s m args below meth c H locs 0 0 Q (F0 m 107 ls [])) → ∀ (vM : Ob) (x1 : Int32) (s1 : Int32), m_X6_next_j142  rc vM x1 s1 = some out → ∀ (H : Heap) (locs : List Loc) (ls : Array Slot), va_P G vwCl [oX6 aM vM vT, ai cI (aM 1) 70 (vM 1), ai cI (aM 2) 70 (vM 2), ai cI (aM 3) 40 (vM 3), ai cI (aM 4) 80 (vM 4), ai cZ (aM 5) 2 (vM 5), ai cI (aM 6) 200 (vM 6), ai cI (aM 8) 12 (vM 8), ai cI (aM 10) 12 (vM 10), ai cI (aM 18) 427 (vM 18), ai cI (aM 21) 100 (vM 21), ai cI (aM 23) 100 (vM 23), ai cI (aM 24) 100 (vM 24), ai cI (aM 26) 7 (vM 26), ai cI (aM 27) 5 (vM 27), ai cI (aM 28) 64 (vM 28)] H → va_D A [oX6 aM vM vT, ai cI (aM 1) 70 (vM 1), ai cI (aM 2) 70 (vM 2), ai cI (aM 3) 40 (vM 3), ai cI (aM 4) 80 (vM 4), ai cZ (aM 5) 2 (vM 5), ai cI (aM 6) 200 (vM 6), ai cI (aM 8) 12 (vM 8), ai cI (aM 10) 12 (vM 10), ai cI (aM 18) 427 (vM 18), ai cI (aM 21) 100 (vM 21), ai cI (aM 23) 100 (vM 23), ai cI (aM 24) 100 (vM 24), ai cI (aM 26) 7 (vM 26), ai cI (aM 27) 5 (vM 27), ai cI (aM 28) 64 (vM 28)] → va_S A s.heap H locs → lv_has ls 3 [(0, .ref (aM 0)), (1, .int x1)] → W p l e rm_X6_next s m args below meth c H locs 0 0 Q (F0 m 142 ls [.int s1, .ref (aM 0)]) := by
      intro rc hrc vM x1 s1 h H locs ls hP hD hS hl
      unfold m_X6_next_j142 at h
      refine va_put (D := G) (ci := 6) (v := .int s1) (ty := .int) (C := RX6) (T := TX6) (N := 29) hx hb hts fi_X6_next_X6 tyX6 tyX6_ok nmX6 hown hEN.1 hP hD hS 0 rfl rfl 15 (by decide) (hts (.fieldLink RX6 98 "HourWellModel" "value" "I") (List.mem_of_getElem? (i := 4) rfl)) (fun _ h9 => h9) rfl (by decide +kernel) rfl rfl (Nat.le_of_ble_eq_true rfl) dX6_next_142 (fun H locs hP hD hS => ?_)
      have hP : va_P G vwCl [oX6 aM (st vM 0 15 s1) vT, ai cI (aM 1) 70 (vM 1), ai cI (aM 2) 70 (vM 2), ai cI (aM 3) 40 (vM 3), ai cI (aM 4) 80 (vM 4), ai cZ (aM 5) 2 (vM 5), ai cI (aM 6) 200 (vM 6), ai cI (aM 8) 12 (vM 8), ai cI (aM 10) 12 (vM 10), ai cI (aM 18) 427 (vM 18), ai cI (aM 21) 100 (vM 21), ai cI (aM 23) 100 (vM 23), ai cI (aM 24) 100 (vM 24), ai cI (aM 26) 7 (vM 26), ai cI (aM 27) 5 (vM 27), ai cI (aM 28) 64 (vM 28)] H := hP
      have hD : va_D A [oX6 aM (st vM 0 15 s1) vT, ai cI (aM 1) 70 (vM 1), ai cI (aM 2) 70 (vM 2), ai cI (aM 3) 40 (vM 3), ai cI (aM 4) 80 (vM 4), ai cZ (aM 5) 2 (vM 5), ai cI (aM 6) 200 (vM 6), ai cI (aM 8) 12 (vM 8), ai cI (aM 10) 12 (vM 10), ai cI (aM 18) 427 (vM 18), ai cI (aM 21) 100 (vM 21), ai cI (aM 23) 100 (vM 23), ai cI (aM 24) 100 (vM 24), ai cI (aM 26) 7 (vM 26), ai cI (aM 27) 5 (vM 27), ai cI (aM 28) 64 (vM 28)] := hD
      refine lv_aload_n hx hb dX6_next_145 rfl (lv_at hl 0 rfl) ?_
      refine lv_dup hx hb dX6_next_146 rfl ?_
      refine va_get (D := G) (ci := 6) (v := .int (vM 0 12)) (C := RX6) (T := TX6) (N := 29) hx hb hts fi_X6_next_X6 hown hEN.1 hP 0 rfl rfl 12 (by decide) (hts (.fieldLink RX6 78 "HourWellModel" "at" "I") (List.mem_of_getElem? (i := 1) rfl)) (fun _ h9 => h9) rfl dX6_next_147 ?_
      refine lv_iconst (v := (1 : Int32)) hx hb dX6_next_150 k_iconst_1 ?_
      refine lv_iadd hx hb dX6_next_151 ?_
      refine va_put (D := G) (ci := 6) (v := .int ((vM 0 12) + (1 : Int32))) (ty := .int) (C := RX6) (T := TX6) (N := 29) hx hb hts fi_X6_next_X6 tyX6 tyX6_ok nmX6 hown hEN.1 hP hD hS 0 rfl rfl 12 (by decide) (hts (.fieldLink RX6 78 "HourWellModel" "at" "I") (List.mem_of_getElem? (i := 1) rfl)) (fun _ h9 => h9) rfl (by decide +kernel) rfl rfl (Nat.le_of_ble_eq_true rfl) dX6_next_152 (fun H locs hP hD hS => ?_)
      have hP : va_P G vwCl [oX6 aM (st (st vM 0 15 s1) 0 12 ((vM 0 12) + (1 : Int32))) vT, ai cI (aM 1) 70 (vM 1), ai cI (aM 2) 70 (vM 2), ai cI (aM 3) 40 (vM 3), ai cI (aM 4) 80 (vM 4), ai cZ (aM 5) 2 (vM 5), ai cI (aM 6) 200 (vM 6), ai cI (aM 8) 12 (vM 8), ai cI (aM 10) 12 (vM 10), ai cI (aM 18) 427 (vM 18), ai cI (aM 21) 100 (vM 21), ai cI (aM 23) 100 (vM 23), ai cI (aM 24) 100 (vM 24), ai cI (aM 26) 7 (vM 26), ai cI (aM 27) 5 (vM 27), ai cI (aM 28) 64 (vM 28)] H := hP
      have hD : va_D A [oX6 aM (st (st vM 0 15 s1) 0 12 ((vM 0 12) + (1 : Int32))) vT, ai cI (aM 1) 70 (vM 1), ai cI (aM 2) 70 (vM 2), ai cI (aM 3) 40 (vM 3), ai cI (aM 4) 80 (vM 4), ai cZ (aM 5) 2 (vM 5), ai cI (aM 6) 200 (vM 6), ai cI (aM 8) 12 (vM 8), ai cI (aM 10) 12 (vM 10), ai cI (aM 18) 427 (vM 18), ai cI (aM 21) 100 (vM 21), ai cI (aM 23) 100 (vM 23), ai cI (aM 24) 100 (vM 24), ai cI (aM 26) 7 (vM 26), ai cI (aM 27) 5 (vM 27), ai cI (aM 28) 64 (vM 28)] := hD
      refine lv_goto (tgt := 107) hx hb dX6_next_155 (by decide) ?_
      exact hrc (st (st vM 0 15 s1) 0 12 ((vM 0 12) + (1 : Int32))) x1 h _ _ _ hP hD hS (lv_sub hl [0, 1] rfl)
    intro n
    induction n with
    | zero => intro vM x1 h; exact nomatch (show (none : Option (Ob × Int32)) = some out from h)
    | succ n hrc =>
      intro vM x1 h H locs ls hP hD hS hl
      have h : m_X6_next_L107B  (m_X6_next_L107  n) vM x1 = some out := h
      generalize m_X6_next_L107  n = rc at h hrc
      unfold m_X6_next_L107B at h
      refine lv_aload_n hx hb dX6_next_107 rfl (lv_at hl 0 rfl) ?_
      refine va_get (D := G) (ci := 6) (v := .int (vM 0 14)) (C := RX6) (T := TX6) (N := 29) hx hb hts fi_X6_next_X6 hown hEN.1 hP 0 rfl rfl 14 (by decide) (hts (.fieldLink RX6 95 "HourWellModel" "token" "I") (List.mem_of_getElem? (i := 3) rfl)) (fun _ h9 => h9) rfl dX6_next_108 ?_
      refine lv_iconst (v := (1 : Int32)) hx hb dX6_next_111 k_iconst_1 ?_
      refine lv_icmp_ne (tgt := 158) hx hb dX6_next_112 (by decide) (fun c112 => ?_) (fun c112 => ?_)
      · have h := (if_neg c112).symm.trans h
        exact hKx _ (Option.some.inj h).symm _ _ _ hP hD hS (lv_sub hl [0, 1] rfl)
      · have h := (if_pos c112).symm.trans h
        refine lv_aload_n hx hb dX6_next_115 rfl (lv_at hl 0 rfl) ?_
        obtain ⟨o116, ho116, h⟩ := bnd_some h
        refine call_V0 (As := []) (rest := []) ⟨hx, hb, hml, hown, hts⟩ (c_X6_here l G cI cZ aM vT vM o116 ho116) (cwV 0 hts gX6_next_X6_here rfl rfl rfl hdV_X6_here ⟨Nat.le_of_ble_eq_true rfl, Nat.le_of_ble_eq_true rfl⟩) hEN hA hP hD hS [0, 6] rfl (by decide) 0 rfl rfl rfl hl.1 rfl (Nat.le_of_ble_eq_true rfl) dX6_next_116 ⟨Nat.le_of_ble_eq_true rfl, Nat.le_of_ble_eq_true rfl⟩ (fun H locs hP hS => ?_)
        obtain ⟨o119, ho119, h⟩ := bnd_some h
        refine call_S0 (As := [.int o116]) (rest := []) ⟨hx, hb, hml, hown, hts⟩ (c_X6_isLetter l G cI cZ  o116 o119 ho119) (va_cwS 1 hts gX6_next_X6_isLetter rfl rfl rfl hdS_X6_isLetter ⟨Nat.le_of_ble_eq_true rfl, Nat.le_of_ble_eq_true rfl⟩) hEN hA hP hD hS [] rfl (by decide) rfl hl.1 rfl (Nat.le_of_ble_eq_true rfl) dX6_next_119 ⟨Nat.le_of_ble_eq_true rfl, Nat.le_of_ble_eq_true rfl⟩ (fun H locs hP hS => ?_)
        refine lv_if_eq (tgt := 158) hx hb dX6_next_122 (by decide) (fun c122 => ?_) (fun c122 => ?_)
        · have h := (if_pos c122).symm.trans h
          exact hKx _ (Option.some.inj h).symm _ _ _ hP hD hS (lv_sub hl [0, 1] rfl)
        · have h := (if_neg c122).symm.trans h
          refine lv_aload_n hx hb dX6_next_125 rfl (lv_at hl 0 rfl) ?_
          refine lv_aload_n hx hb dX6_next_126 rfl (lv_at hl 0 rfl) ?_
          refine va_get (D := G) (ci := 6) (v := .int (vM 0 12)) (C := RX6) (T := TX6) (N := 29) hx hb hts fi_X6_next_X6 hown hEN.1 hP 0 rfl rfl 12 (by decide) (hts (.fieldLink RX6 78 "HourWellModel" "at" "I") (List.mem_of_getElem? (i := 1) rfl)) (fun _ h9 => h9) rfl dX6_next_127 ?_
          refine lv_aload_n hx hb dX6_next_130 rfl (lv_at hl 0 rfl) ?_
          refine va_get (D := G) (ci := 6) (v := .int (vM 0 13)) (C := RX6) (T := TX6) (N := 29) hx hb hts fi_X6_next_X6 hown hEN.1 hP 0 rfl rfl 13 (by decide) (hts (.fieldLink RX6 85 "HourWellModel" "begin" "I") (List.mem_of_getElem? (i := 2) rfl)) (fun _ h9 => h9) rfl dX6_next_131 ?_
          refine lv_icmp_ne (tgt := 141) hx hb dX6_next_134 (by decide) (fun c134 => ?_) (fun c134 => ?_)
          · have h := (if_neg c134).symm.trans h
            refine lv_iconst (v := (0 : Int32)) hx hb dX6_next_141 k_iconst_0 ?_
            exact j142 rc hrc vM x1 (0 : Int32) h _ _ _ hP hD hS (lv_sub hl [0, 1] rfl)
          · have h := (if_pos c134).symm.trans h
            refine lv_iload_n hx hb dX6_next_137 rfl (lv_at hl 1 rfl) ?_
            refine lv_goto (tgt := 142) hx hb dX6_next_138 (by decide) ?_
            exact j142 rc hrc vM x1 x1 h _ _ _ hP hD hS (lv_sub hl [0, 1] rfl)
  have L158 : ∀ (out : Ob × Int32), (∀ ex : Ob × Int32, out = ex → ∀ (H : Heap) (locs : List Loc) (ls : Array Slot), va_P G vwCl [oX6 aM ex.1 vT, ai cI (aM 1) 70 (ex.1 1), ai cI (aM 2) 70 (ex.1 2), ai cI (aM 3) 40 (ex.1 3), ai cI (aM 4) 80 (ex.1 4), ai cZ (aM 5) 2 (ex.1 5), ai cI (aM 6) 200 (ex.1 6), ai cI (aM 8) 12 (ex.1 8), ai cI (aM 10) 12 (ex.1 10), ai cI (aM 18) 427 (ex.1 18), ai cI (aM 21) 100 (ex.1 21), ai cI (aM 23) 100 (ex.1 23), ai cI (aM 24) 100 (ex.1 24), ai cI (aM 26) 7 (ex.1 26), ai cI (aM 27) 5 (ex.1 27), ai cI (aM 28) 64 (ex.1 28)] H → va_D A [oX6 aM ex.1 vT, ai cI (aM 1) 70 (ex.1 1), ai cI (aM 2) 70 (ex.1 2), ai cI (aM 3) 40 (ex.1 3), ai cI (aM 4) 80 (ex.1 4), ai cZ (aM 5) 2 (ex.1 5), ai cI (aM 6) 200 (ex.1 6), ai cI (aM 8) 12 (ex.1 8), ai cI (aM 10) 12 (ex.1 10), ai cI (aM 18) 427 (ex.1 18), ai cI (aM 21) 100 (ex.1 21), ai cI (aM 23) 100 (ex.1 23), ai cI (aM 24) 100 (ex.1 24), ai cI (aM 26) 7 (ex.1 26), ai cI (aM 27) 5 (ex.1 27), ai cI (aM 28) 64 (ex.1 28)] → va_S A s.heap H locs → lv_has ls 3 [(0, .ref (aM 0)), (1, .int ex.2)] → W p l e rm_X6_next s m args below meth c H locs 0 0 Q (F0 m 224 ls [])) → ∀ (n : Nat) (vM : Ob) (x1 : Int32), m_X6_next_L158  n vM x1 = some out → ∀ (H : Heap) (locs : List Loc) (ls : Array Slot), va_P G vwCl [oX6 aM vM vT, ai cI (aM 1) 70 (vM 1), ai cI (aM 2) 70 (vM 2), ai cI (aM 3) 40 (vM 3), ai cI (aM 4) 80 (vM 4), ai cZ (aM 5) 2 (vM 5), ai cI (aM 6) 200 (vM 6), ai cI (aM 8) 12 (vM 8), ai cI (aM 10) 12 (vM 10), ai cI (aM 18) 427 (vM 18), ai cI (aM 21) 100 (vM 21), ai cI (aM 23) 100 (vM 23), ai cI (aM 24) 100 (vM 24), ai cI (aM 26) 7 (vM 26), ai cI (aM 27) 5 (vM 27), ai cI (aM 28) 64 (vM 28)] H → va_D A [oX6 aM vM vT, ai cI (aM 1) 70 (vM 1), ai cI (aM 2) 70 (vM 2), ai cI (aM 3) 40 (vM 3), ai cI (aM 4) 80 (vM 4), ai cZ (aM 5) 2 (vM 5), ai cI (aM 6) 200 (vM 6), ai cI (aM 8) 12 (vM 8), ai cI (aM 10) 12 (vM 10), ai cI (aM 18) 427 (vM 18), ai cI (aM 21) 100 (vM 21), ai cI (aM 23) 100 (vM 23), ai cI (aM 24) 100 (vM 24), ai cI (aM 26) 7 (vM 26), ai cI (aM 27) 5 (vM 27), ai cI (aM 28) 64 (vM 28)] → va_S A s.heap H locs → lv_has ls 3 [(0, .ref (aM 0)), (1, .int x1)] → W p l e rm_X6_next s m args below meth c H locs 0 0 Q (F0 m 158 ls []) := by
    intro out hKx
    have j208 : ∀ (rc : Ob → Int32 → Option (Ob × Int32)), (∀ (vM : Ob) (x1 : Int32), rc vM x1 = some out → ∀ (H : Heap) (locs : List Loc) (ls : Array Slot), va_P G vwCl [oX6 aM vM vT, ai cI (aM 1) 70 (vM 1), ai cI (aM 2) 70 (vM 2), ai cI (aM 3) 40 (vM 3), ai cI (aM 4) 80 (vM 4), ai cZ (aM 5) 2 (vM 5), ai cI (aM 6) 200 (vM 6), ai cI (aM 8) 12 (vM 8), ai cI (aM 10) 12 (vM 10), ai cI (aM 18) 427 (vM 18), ai cI (aM 21) 100 (vM 21), ai cI (aM 23) 100 (vM 23), ai cI (aM 24) 100 (vM 24), ai cI (aM 26) 7 (vM 26), ai cI (aM 27) 5 (vM 27), ai cI (aM 28) 64 (vM 28)] H → va_D A [oX6 aM vM vT, ai cI (aM 1) 70 (vM 1), ai cI (aM 2) 70 (vM 2), ai cI (aM 3) 40 (vM 3), ai cI (aM 4) 80 (vM 4), ai cZ (aM 5) 2 (vM 5), ai cI (aM 6) 200 (vM 6), ai cI (aM 8) 12 (vM 8), ai cI (aM 10) 12 (vM 10), ai cI (aM 18) 427 (vM 18), ai cI (aM 21) 100 (vM 21), ai cI (aM 23) 100 (vM 23), ai cI (aM 24) 100 (vM 24), ai cI (aM 26) 7 (vM 26), ai cI (aM 27) 5 (vM 27), ai cI (aM 28) 64 (vM 28)] → va_S A s.heap H locs → lv_has ls 3 [(0, .ref (aM 0)), (1, .int x1)] → W p l e rm_X6_next s m args below meth c H locs 0 0 Q (F0 m 158 ls [])) → ∀ (vM : Ob) (x1 : Int32) (s1 : Int32), m_X6_next_j208  rc vM x1 s1 = some out → ∀ (H : Heap) (locs : List Loc) (ls : Array Slot), va_P G vwCl [oX6 aM vM vT, ai cI (aM 1) 70 (vM 1), ai cI (aM 2) 70 (vM 2), ai cI (aM 3) 40 (vM 3), ai cI (aM 4) 80 (vM 4), ai cZ (aM 5) 2 (vM 5), ai cI (aM 6) 200 (vM 6), ai cI (aM 8) 12 (vM 8), ai cI (aM 10) 12 (vM 10), ai cI (aM 18) 427 (vM 18), ai cI (aM 21) 100 (vM 21), ai cI (aM 23) 100 (vM 23), ai cI (aM 24) 100 (vM 24), ai cI (aM 26) 7 (vM 26), ai cI (aM 27) 5 (vM 27), ai cI (aM 28) 64 (vM 28)] H → va_D A [oX6 aM vM vT, ai cI (aM 1) 70 (vM 1), ai cI (aM 2) 70 (vM 2), ai cI (aM 3) 40 (vM 3), ai cI (aM 4) 80 (vM 4), ai cZ (aM 5) 2 (vM 5), ai cI (aM 6) 200 (vM 6), ai cI (aM 8) 12 (vM 8), ai cI (aM 10) 12 (vM 10), ai cI (aM 18) 427 (vM 18), ai cI (aM 21) 100 (vM 21), ai cI (aM 23) 100 (vM 23), ai cI (aM 24) 100 (vM 24), ai cI (aM 26) 7 (vM 26), ai cI (aM 27) 5 (vM 27), ai cI (aM 28) 64 (vM 28)] → va_S A s.heap H locs → lv_has ls 3 [(0, .ref (aM 0)), (1, .int x1)] → W p l e rm_X6_next s m args below meth c H locs 0 0 Q (F0 m 208 ls [.int s1, .ref (aM 0)]) := by
      intro rc hrc vM x1 s1 h H locs ls hP hD hS hl
      unfold m_X6_next_j208 at h
      refine va_put (D := G) (ci := 6) (v := .int s1) (ty := .int) (C := RX6) (T := TX6) (N := 29) hx hb hts fi_X6_next_X6 tyX6 tyX6_ok nmX6 hown hEN.1 hP hD hS 0 rfl rfl 15 (by decide) (hts (.fieldLink RX6 98 "HourWellModel" "value" "I") (List.mem_of_getElem? (i := 4) rfl)) (fun _ h9 => h9) rfl (by decide +kernel) rfl rfl (Nat.le_of_ble_eq_true rfl) dX6_next_208 (fun H locs hP hD hS => ?_)
      have hP : va_P G vwCl [oX6 aM (st vM 0 15 s1) vT, ai cI (aM 1) 70 (vM 1), ai cI (aM 2) 70 (vM 2), ai cI (aM 3) 40 (vM 3), ai cI (aM 4) 80 (vM 4), ai cZ (aM 5) 2 (vM 5), ai cI (aM 6) 200 (vM 6), ai cI (aM 8) 12 (vM 8), ai cI (aM 10) 12 (vM 10), ai cI (aM 18) 427 (vM 18), ai cI (aM 21) 100 (vM 21), ai cI (aM 23) 100 (vM 23), ai cI (aM 24) 100 (vM 24), ai cI (aM 26) 7 (vM 26), ai cI (aM 27) 5 (vM 27), ai cI (aM 28) 64 (vM 28)] H := hP
      have hD : va_D A [oX6 aM (st vM 0 15 s1) vT, ai cI (aM 1) 70 (vM 1), ai cI (aM 2) 70 (vM 2), ai cI (aM 3) 40 (vM 3), ai cI (aM 4) 80 (vM 4), ai cZ (aM 5) 2 (vM 5), ai cI (aM 6) 200 (vM 6), ai cI (aM 8) 12 (vM 8), ai cI (aM 10) 12 (vM 10), ai cI (aM 18) 427 (vM 18), ai cI (aM 21) 100 (vM 21), ai cI (aM 23) 100 (vM 23), ai cI (aM 24) 100 (vM 24), ai cI (aM 26) 7 (vM 26), ai cI (aM 27) 5 (vM 27), ai cI (aM 28) 64 (vM 28)] := hD
      refine lv_aload_n hx hb dX6_next_211 rfl (lv_at hl 0 rfl) ?_
      refine lv_dup hx hb dX6_next_212 rfl ?_
      refine va_get (D := G) (ci := 6) (v := .int (vM 0 12)) (C := RX6) (T := TX6) (N := 29) hx hb hts fi_X6_next_X6 hown hEN.1 hP 0 rfl rfl 12 (by decide) (hts (.fieldLink RX6 78 "HourWellModel" "at" "I") (List.mem_of_getElem? (i := 1) rfl)) (fun _ h9 => h9) rfl dX6_next_213 ?_
      refine lv_iconst (v := (1 : Int32)) hx hb dX6_next_216 k_iconst_1 ?_
      refine lv_iadd hx hb dX6_next_217 ?_
      refine va_put (D := G) (ci := 6) (v := .int ((vM 0 12) + (1 : Int32))) (ty := .int) (C := RX6) (T := TX6) (N := 29) hx hb hts fi_X6_next_X6 tyX6 tyX6_ok nmX6 hown hEN.1 hP hD hS 0 rfl rfl 12 (by decide) (hts (.fieldLink RX6 78 "HourWellModel" "at" "I") (List.mem_of_getElem? (i := 1) rfl)) (fun _ h9 => h9) rfl (by decide +kernel) rfl rfl (Nat.le_of_ble_eq_true rfl) dX6_next_218 (fun H locs hP hD hS => ?_)
      have hP : va_P G vwCl [oX6 aM (st (st vM 0 15 s1) 0 12 ((vM 0 12) + (1 : Int32))) vT, ai cI (aM 1) 70 (vM 1), ai cI (aM 2) 70 (vM 2), ai cI (aM 3) 40 (vM 3), ai cI (aM 4) 80 (vM 4), ai cZ (aM 5) 2 (vM 5), ai cI (aM 6) 200 (vM 6), ai cI (aM 8) 12 (vM 8), ai cI (aM 10) 12 (vM 10), ai cI (aM 18) 427 (vM 18), ai cI (aM 21) 100 (vM 21), ai cI (aM 23) 100 (vM 23), ai cI (aM 24) 100 (vM 24), ai cI (aM 26) 7 (vM 26), ai cI (aM 27) 5 (vM 27), ai cI (aM 28) 64 (vM 28)] H := hP
      have hD : va_D A [oX6 aM (st (st vM 0 15 s1) 0 12 ((vM 0 12) + (1 : Int32))) vT, ai cI (aM 1) 70 (vM 1), ai cI (aM 2) 70 (vM 2), ai cI (aM 3) 40 (vM 3), ai cI (aM 4) 80 (vM 4), ai cZ (aM 5) 2 (vM 5), ai cI (aM 6) 200 (vM 6), ai cI (aM 8) 12 (vM 8), ai cI (aM 10) 12 (vM 10), ai cI (aM 18) 427 (vM 18), ai cI (aM 21) 100 (vM 21), ai cI (aM 23) 100 (vM 23), ai cI (aM 24) 100 (vM 24), ai cI (aM 26) 7 (vM 26), ai cI (aM 27) 5 (vM 27), ai cI (aM 28) 64 (vM 28)] := hD
      refine lv_goto (tgt := 158) hx hb dX6_next_221 (by decide) ?_
      exact hrc (st (st vM 0 15 s1) 0 12 ((vM 0 12) + (1 : Int32))) x1 h _ _ _ hP hD hS (lv_sub hl [0, 1] rfl)
    intro n
    induction n with
    | zero => intro vM x1 h; exact nomatch (show (none : Option (Ob × Int32)) = some out from h)
    | succ n hrc =>
      intro vM x1 h H locs ls hP hD hS hl
      have h : m_X6_next_L158B  (m_X6_next_L158  n) vM x1 = some out := h
      generalize m_X6_next_L158  n = rc at h hrc
      unfold m_X6_next_L158B at h
      refine lv_aload_n hx hb dX6_next_158 rfl (lv_at hl 0 rfl) ?_
      refine va_get (D := G) (ci := 6) (v := .int (vM 0 14)) (C := RX6) (T := TX6) (N := 29) hx hb hts fi_X6_next_X6 hown hEN.1 hP 0 rfl rfl 14 (by decide) (hts (.fieldLink RX6 95 "HourWellModel" "token" "I") (List.mem_of_getElem? (i := 3) rfl)) (fun _ h9 => h9) rfl dX6_next_159 ?_
      refine lv_iconst (v := (2 : Int32)) hx hb dX6_next_162 k_iconst_2 ?_
      refine lv_icmp_ne (tgt := 224) hx hb dX6_next_163 (by decide) (fun c163 => ?_) (fun c163 => ?_)
      · have h := (if_neg c163).symm.trans h
        exact hKx _ (Option.some.inj h).symm _ _ _ hP hD hS (lv_sub hl [0, 1] rfl)
      · have h := (if_pos c163).symm.trans h
        refine lv_aload_n hx hb dX6_next_166 rfl (lv_at hl 0 rfl) ?_
        obtain ⟨o167, ho167, h⟩ := bnd_some h
        refine call_V0 (As := []) (rest := []) ⟨hx, hb, hml, hown, hts⟩ (c_X6_here l G cI cZ aM vT vM o167 ho167) (cwV 0 hts gX6_next_X6_here rfl rfl rfl hdV_X6_here ⟨Nat.le_of_ble_eq_true rfl, Nat.le_of_ble_eq_true rfl⟩) hEN hA hP hD hS [0, 6] rfl (by decide) 0 rfl rfl rfl hl.1 rfl (Nat.le_of_ble_eq_true rfl) dX6_next_167 ⟨Nat.le_of_ble_eq_true rfl, Nat.le_of_ble_eq_true rfl⟩ (fun H locs hP hS => ?_)
        obtain ⟨o170, ho170, h⟩ := bnd_some h
        refine call_S0 (As := [.int o167]) (rest := []) ⟨hx, hb, hml, hown, hts⟩ (c_X6_isFigure l G cI cZ  o167 o170 ho170) (va_cwS 1 hts gX6_next_X6_isFigure rfl rfl rfl hdS_X6_isFigure ⟨Nat.le_of_ble_eq_true rfl, Nat.le_of_ble_eq_true rfl⟩) hEN hA hP hD hS [] rfl (by decide) rfl hl.1 rfl (Nat.le_of_ble_eq_true rfl) dX6_next_170 ⟨Nat.le_of_ble_eq_true rfl, Nat.le_of_ble_eq_true rfl⟩ (fun H locs hP hS => ?_)
        refine lv_if_eq (tgt := 224) hx hb dX6_next_173 (by decide) (fun c173 => ?_) (fun c173 => ?_)
        · have h := (if_pos c173).symm.trans h
          exact hKx _ (Option.some.inj h).symm _ _ _ hP hD hS (lv_sub hl [0, 1] rfl)
        · have h := (if_neg c173).symm.trans h
          refine lv_aload_n hx hb dX6_next_176 rfl (lv_at hl 0 rfl) ?_
          refine lv_aload_n hx hb dX6_next_177 rfl (lv_at hl 0 rfl) ?_
          refine va_get (D := G) (ci := 6) (v := .int (vM 0 15)) (C := RX6) (T := TX6) (N := 29) hx hb hts fi_X6_next_X6 hown hEN.1 hP 0 rfl rfl 15 (by decide) (hts (.fieldLink RX6 98 "HourWellModel" "value" "I") (List.mem_of_getElem? (i := 4) rfl)) (fun _ h9 => h9) rfl dX6_next_178 ?_
          refine lv_bipush (v := (99 : Int32)) hx hb dX6_next_181 k_bipush_99 ?_
          refine lv_icmp_le (tgt := 193) hx hb dX6_next_183 (by decide) (fun c183 => ?_) (fun c183 => ?_)
          · have h := (if_pos c183).symm.trans h
            refine lv_bipush (v := (10 : Int32)) hx hb dX6_next_193 k_bipush_10 ?_
            refine lv_aload_n hx hb dX6_next_195 rfl (lv_at hl 0 rfl) ?_
            refine va_get (D := G) (ci := 6) (v := .int (vM 0 15)) (C := RX6) (T := TX6) (N := 29) hx hb hts fi_X6_next_X6 hown hEN.1 hP 0 rfl rfl 15 (by decide) (hts (.fieldLink RX6 98 "HourWellModel" "value" "I") (List.mem_of_getElem? (i := 4) rfl)) (fun _ h9 => h9) rfl dX6_next_196 ?_
            refine lv_imul hx hb dX6_next_199 ?_
            refine lv_aload_n hx hb dX6_next_200 rfl (lv_at hl 0 rfl) ?_
            obtain ⟨o201, ho201, h⟩ := bnd_some h
            refine call_V0 (As := []) (rest := [.int ((10 : Int32) * (vM 0 15)), .ref (aM 0)]) ⟨hx, hb, hml, hown, hts⟩ (c_X6_here l G cI cZ aM vT vM o201 ho201) (cwV 0 hts gX6_next_X6_here rfl rfl rfl hdV_X6_here ⟨Nat.le_of_ble_eq_true rfl, Nat.le_of_ble_eq_true rfl⟩) hEN hA hP hD hS [0, 6] rfl (by decide) 0 rfl rfl rfl hl.1 rfl (Nat.le_of_ble_eq_true rfl) dX6_next_201 ⟨Nat.le_of_ble_eq_true rfl, Nat.le_of_ble_eq_true rfl⟩ (fun H locs hP hS => ?_)
            refine lv_iadd hx hb dX6_next_204 ?_
            refine lv_bipush (v := (48 : Int32)) hx hb dX6_next_205 k_bipush_48 ?_
            refine lv_isub hx hb dX6_next_207 ?_
            exact j208 rc hrc vM x1 ((((10 : Int32) * (vM 0 15)) + o201) - (48 : Int32)) h _ _ _ hP hD hS (lv_sub hl [0, 1] rfl)
          · have h := (if_neg c183).symm.trans h
            refine lv_aload_n hx hb dX6_next_186 rfl (lv_at hl 0 rfl) ?_
            refine va_get (D := G) (ci := 6) (v := .int (vM 0 15)) (C := RX6) (T := TX6) (N := 29) hx hb hts fi_X6_next_X6 hown hEN.1 hP 0 rfl rfl 15 (by decide) (hts (.fieldLink RX6 98 "HourWellModel" "value" "I") (List.mem_of_getElem? (i := 4) rfl)) (fun _ h9 => h9) rfl dX6_next_187 ?_
            refine lv_goto (tgt := 208) hx hb dX6_next_190 (by decide) ?_
            exact j208 rc hrc vM x1 (vM 0 15) h _ _ _ hP hD hS (lv_sub hl [0, 1] rfl)
  have j265 : ∀ (vM : Ob) (s0 : Int32), m_X6_next_j265  vM s0 = some res → ∀ (H : Heap) (locs : List Loc) (ls : Array Slot), va_P G vwCl [oX6 aM vM vT, ai cI (aM 1) 70 (vM 1), ai cI (aM 2) 70 (vM 2), ai cI (aM 3) 40 (vM 3), ai cI (aM 4) 80 (vM 4), ai cZ (aM 5) 2 (vM 5), ai cI (aM 6) 200 (vM 6), ai cI (aM 8) 12 (vM 8), ai cI (aM 10) 12 (vM 10), ai cI (aM 18) 427 (vM 18), ai cI (aM 21) 100 (vM 21), ai cI (aM 23) 100 (vM 23), ai cI (aM 24) 100 (vM 24), ai cI (aM 26) 7 (vM 26), ai cI (aM 27) 5 (vM 27), ai cI (aM 28) 64 (vM 28)] H → va_D A [oX6 aM vM vT, ai cI (aM 1) 70 (vM 1), ai cI (aM 2) 70 (vM 2), ai cI (aM 3) 40 (vM 3), ai cI (aM 4) 80 (vM 4), ai cZ (aM 5) 2 (vM 5), ai cI (aM 6) 200 (vM 6), ai cI (aM 8) 12 (vM 8), ai cI (aM 10) 12 (vM 10), ai cI (aM 18) 427 (vM 18), ai cI (aM 21) 100 (vM 21), ai cI (aM 23) 100 (vM 23), ai cI (aM 24) 100 (vM 24), ai cI (aM 26) 7 (vM 26), ai cI (aM 27) 5 (vM 27), ai cI (aM 28) 64 (vM 28)] → va_S A s.heap H locs → lv_has ls 3 [(0, .ref (aM 0))] → W p l e rm_X6_next s m args below meth c H locs 0 0 Q (F0 m 265 ls [.int s0]) := by
    intro vM s0 h H locs ls hP hD hS hl
    unfold m_X6_next_j265 at h
    refine lv_istore_n (lv' := [(2, .int s0), (0, .ref (aM 0))]) hx hb dX6_next_265 rfl hl (by decide) rfl (fun ls hl => ?_)
    refine lv_aload_n hx hb dX6_next_266 rfl (lv_at hl 1 rfl) ?_
    refine lv_iload_n hx hb dX6_next_267 rfl (lv_at hl 0 rfl) ?_
    refine lv_if_eq (tgt := 275) hx hb dX6_next_268 (by decide) (fun c268 => ?_) (fun c268 => ?_)
    · have h := (if_pos c268).symm.trans h
      refine lv_aload_n hx hb dX6_next_275 rfl (lv_at hl 1 rfl) ?_
      refine va_get (D := G) (ci := 6) (v := .int (vM 0 14)) (C := RX6) (T := TX6) (N := 29) hx hb hts fi_X6_next_X6 hown hEN.1 hP 0 rfl rfl 14 (by decide) (hts (.fieldLink RX6 95 "HourWellModel" "token" "I") (List.mem_of_getElem? (i := 3) rfl)) (fun _ h9 => h9) rfl dX6_next_276 ?_
      refine va_put (D := G) (ci := 6) (v := .int (vM 0 14)) (ty := .int) (C := RX6) (T := TX6) (N := 29) hx hb hts fi_X6_next_X6 tyX6 tyX6_ok nmX6 hown hEN.1 hP hD hS 0 rfl rfl 14 (by decide) (hts (.fieldLink RX6 95 "HourWellModel" "token" "I") (List.mem_of_getElem? (i := 3) rfl)) (fun _ h9 => h9) rfl (by decide +kernel) rfl rfl (Nat.le_of_ble_eq_true rfl) dX6_next_279 (fun H locs hP hD hS => ?_)
      have hP : va_P G vwCl [oX6 aM (st vM 0 14 (vM 0 14)) vT, ai cI (aM 1) 70 (vM 1), ai cI (aM 2) 70 (vM 2), ai cI (aM 3) 40 (vM 3), ai cI (aM 4) 80 (vM 4), ai cZ (aM 5) 2 (vM 5), ai cI (aM 6) 200 (vM 6), ai cI (aM 8) 12 (vM 8), ai cI (aM 10) 12 (vM 10), ai cI (aM 18) 427 (vM 18), ai cI (aM 21) 100 (vM 21), ai cI (aM 23) 100 (vM 23), ai cI (aM 24) 100 (vM 24), ai cI (aM 26) 7 (vM 26), ai cI (aM 27) 5 (vM 27), ai cI (aM 28) 64 (vM 28)] H := hP
      have hD : va_D A [oX6 aM (st vM 0 14 (vM 0 14)) vT, ai cI (aM 1) 70 (vM 1), ai cI (aM 2) 70 (vM 2), ai cI (aM 3) 40 (vM 3), ai cI (aM 4) 80 (vM 4), ai cZ (aM 5) 2 (vM 5), ai cI (aM 6) 200 (vM 6), ai cI (aM 8) 12 (vM 8), ai cI (aM 10) 12 (vM 10), ai cI (aM 18) 427 (vM 18), ai cI (aM 21) 100 (vM 21), ai cI (aM 23) 100 (vM 23), ai cI (aM 24) 100 (vM 24), ai cI (aM 26) 7 (vM 26), ai cI (aM 27) 5 (vM 27), ai cI (aM 28) 64 (vM 28)] := hD
      have hres := Option.some.inj h
      subst hres
      exact hRet 282 _ _ _ hP hD hS dX6_next_282
    · have h := (if_neg c268).symm.trans h
      refine lv_iconst (v := (4 : Int32)) hx hb dX6_next_271 k_iconst_4 ?_
      refine lv_goto (tgt := 279) hx hb dX6_next_272 (by decide) ?_
      refine va_put (D := G) (ci := 6) (v := .int (4 : Int32)) (ty := .int) (C := RX6) (T := TX6) (N := 29) hx hb hts fi_X6_next_X6 tyX6 tyX6_ok nmX6 hown hEN.1 hP hD hS 0 rfl rfl 14 (by decide) (hts (.fieldLink RX6 95 "HourWellModel" "token" "I") (List.mem_of_getElem? (i := 3) rfl)) (fun _ h9 => h9) rfl (by decide +kernel) rfl rfl (Nat.le_of_ble_eq_true rfl) dX6_next_279 (fun H locs hP hD hS => ?_)
      have hP : va_P G vwCl [oX6 aM (st vM 0 14 (4 : Int32)) vT, ai cI (aM 1) 70 (vM 1), ai cI (aM 2) 70 (vM 2), ai cI (aM 3) 40 (vM 3), ai cI (aM 4) 80 (vM 4), ai cZ (aM 5) 2 (vM 5), ai cI (aM 6) 200 (vM 6), ai cI (aM 8) 12 (vM 8), ai cI (aM 10) 12 (vM 10), ai cI (aM 18) 427 (vM 18), ai cI (aM 21) 100 (vM 21), ai cI (aM 23) 100 (vM 23), ai cI (aM 24) 100 (vM 24), ai cI (aM 26) 7 (vM 26), ai cI (aM 27) 5 (vM 27), ai cI (aM 28) 64 (vM 28)] H := hP
      have hD : va_D A [oX6 aM (st vM 0 14 (4 : Int32)) vT, ai cI (aM 1) 70 (vM 1), ai cI (aM 2) 70 (vM 2), ai cI (aM 3) 40 (vM 3), ai cI (aM 4) 80 (vM 4), ai cZ (aM 5) 2 (vM 5), ai cI (aM 6) 200 (vM 6), ai cI (aM 8) 12 (vM 8), ai cI (aM 10) 12 (vM 10), ai cI (aM 18) 427 (vM 18), ai cI (aM 21) 100 (vM 21), ai cI (aM 23) 100 (vM 23), ai cI (aM 24) 100 (vM 24), ai cI (aM 26) 7 (vM 26), ai cI (aM 27) 5 (vM 27), ai cI (aM 28) 64 (vM 28)] := hD
      have hres := Option.some.inj h
      subst hres
      exact hRet 282 _ _ _ hP hD hS dX6_next_282
  have j264 : ∀ (vM : Ob), m_X6_next_j264  vM = some res → ∀ (H : Heap) (locs : List Loc) (ls : Array Slot), va_P G vwCl [oX6 aM vM vT, ai cI (aM 1) 70 (vM 1), ai cI (aM 2) 70 (vM 2), ai cI (aM 3) 40 (vM 3), ai cI (aM 4) 80 (vM 4), ai cZ (aM 5) 2 (vM 5), ai cI (aM 6) 200 (vM 6), ai cI (aM 8) 12 (vM 8), ai cI (aM 10) 12 (vM 10), ai cI (aM 18) 427 (vM 18), ai cI (aM 21) 100 (vM 21), ai cI (aM 23) 100 (vM 23), ai cI (aM 24) 100 (vM 24), ai cI (aM 26) 7 (vM 26), ai cI (aM 27) 5 (vM 27), ai cI (aM 28) 64 (vM 28)] H → va_D A [oX6 aM vM vT, ai cI (aM 1) 70 (vM 1), ai cI (aM 2) 70 (vM 2), ai cI (aM 3) 40 (vM 3), ai cI (aM 4) 80 (vM 4), ai cZ (aM 5) 2 (vM 5), ai cI (aM 6) 200 (vM 6), ai cI (aM 8) 12 (vM 8), ai cI (aM 10) 12 (vM 10), ai cI (aM 18) 427 (vM 18), ai cI (aM 21) 100 (vM 21), ai cI (aM 23) 100 (vM 23), ai cI (aM 24) 100 (vM 24), ai cI (aM 26) 7 (vM 26), ai cI (aM 27) 5 (vM 27), ai cI (aM 28) 64 (vM 28)] → va_S A s.heap H locs → lv_has ls 3 [(0, .ref (aM 0))] → W p l e rm_X6_next s m args below meth c H locs 0 0 Q (F0 m 264 ls []) := by
    intro vM h H locs ls hP hD hS hl
    unfold m_X6_next_j264 at h
    refine lv_iconst (v := (0 : Int32)) hx hb dX6_next_264 k_iconst_0 ?_
    exact j265 vM (0 : Int32) h _ _ _ hP hD hS (lv_sub hl [0] rfl)
  have j260 : ∀ (vM : Ob), m_X6_next_j260  vM = some res → ∀ (H : Heap) (locs : List Loc) (ls : Array Slot), va_P G vwCl [oX6 aM vM vT, ai cI (aM 1) 70 (vM 1), ai cI (aM 2) 70 (vM 2), ai cI (aM 3) 40 (vM 3), ai cI (aM 4) 80 (vM 4), ai cZ (aM 5) 2 (vM 5), ai cI (aM 6) 200 (vM 6), ai cI (aM 8) 12 (vM 8), ai cI (aM 10) 12 (vM 10), ai cI (aM 18) 427 (vM 18), ai cI (aM 21) 100 (vM 21), ai cI (aM 23) 100 (vM 23), ai cI (aM 24) 100 (vM 24), ai cI (aM 26) 7 (vM 26), ai cI (aM 27) 5 (vM 27), ai cI (aM 28) 64 (vM 28)] H → va_D A [oX6 aM vM vT, ai cI (aM 1) 70 (vM 1), ai cI (aM 2) 70 (vM 2), ai cI (aM 3) 40 (vM 3), ai cI (aM 4) 80 (vM 4), ai cZ (aM 5) 2 (vM 5), ai cI (aM 6) 200 (vM 6), ai cI (aM 8) 12 (vM 8), ai cI (aM 10) 12 (vM 10), ai cI (aM 18) 427 (vM 18), ai cI (aM 21) 100 (vM 21), ai cI (aM 23) 100 (vM 23), ai cI (aM 24) 100 (vM 24), ai cI (aM 26) 7 (vM 26), ai cI (aM 27) 5 (vM 27), ai cI (aM 28) 64 (vM 28)] → va_S A s.heap H locs → lv_has ls 3 [(0, .ref (aM 0))] → W p l e rm_X6_next s m args below meth c H locs 0 0 Q (F0 m 260 ls []) := by
    intro vM h H locs ls hP hD hS hl
    unfold m_X6_next_j260 at h
    refine lv_iconst (v := (1 : Int32)) hx hb dX6_next_260 k_iconst_1 ?_
    refine lv_goto (tgt := 265) hx hb dX6_next_261 (by decide) ?_
    exact j265 vM (1 : Int32) h _ _ _ hP hD hS (lv_sub hl [0] rfl)
  have j103 : ∀ (vM : Ob) (x1 : Int32) (s1 : Int32) (s2 : Int32), m_X6_next_j103  vM x1 s1 s2 = some res → ∀ (H : Heap) (locs : List Loc) (ls : Array Slot), va_P G vwCl [oX6 aM vM vT, ai cI (aM 1) 70 (vM 1), ai cI (aM 2) 70 (vM 2), ai cI (aM 3) 40 (vM 3), ai cI (aM 4) 80 (vM 4), ai cZ (aM 5) 2 (vM 5), ai cI (aM 6) 200 (vM 6), ai cI (aM 8) 12 (vM 8), ai cI (aM 10) 12 (vM 10), ai cI (aM 18) 427 (vM 18), ai cI (aM 21) 100 (vM 21), ai cI (aM 23) 100 (vM 23), ai cI (aM 24) 100 (vM 24), ai cI (aM 26) 7 (vM 26), ai cI (aM 27) 5 (vM 27), ai cI (aM 28) 64 (vM 28)] H → va_D A [oX6 aM vM vT, ai cI (aM 1) 70 (vM 1), ai cI (aM 2) 70 (vM 2), ai cI (aM 3) 40 (vM 3), ai cI (aM 4) 80 (vM 4), ai cZ (aM 5) 2 (vM 5), ai cI (aM 6) 200 (vM 6), ai cI (aM 8) 12 (vM 8), ai cI (aM 10) 12 (vM 10), ai cI (aM 18) 427 (vM 18), ai cI (aM 21) 100 (vM 21), ai cI (aM 23) 100 (vM 23), ai cI (aM 24) 100 (vM 24), ai cI (aM 26) 7 (vM 26), ai cI (aM 27) 5 (vM 27), ai cI (aM 28) 64 (vM 28)] → va_S A s.heap H locs → lv_has ls 3 [(0, .ref (aM 0)), (1, .int x1)] → W p l e rm_X6_next s m args below meth c H locs 0 0 Q (F0 m 103 ls [.int s2, .int s1, .ref (aM 0)]) := by
    intro vM x1 s1 s2 h H locs ls hP hD hS hl
    unfold m_X6_next_j103 at h
    refine lv_iadd hx hb dX6_next_103 ?_
    refine va_put (D := G) (ci := 6) (v := .int (s1 + s2)) (ty := .int) (C := RX6) (T := TX6) (N := 29) hx hb hts fi_X6_next_X6 tyX6 tyX6_ok nmX6 hown hEN.1 hP hD hS 0 rfl rfl 12 (by decide) (hts (.fieldLink RX6 78 "HourWellModel" "at" "I") (List.mem_of_getElem? (i := 1) rfl)) (fun _ h9 => h9) rfl (by decide +kernel) rfl rfl (Nat.le_of_ble_eq_true rfl) dX6_next_104 (fun H locs hP hD hS => ?_)
    have hP : va_P G vwCl [oX6 aM (st vM 0 12 (s1 + s2)) vT, ai cI (aM 1) 70 (vM 1), ai cI (aM 2) 70 (vM 2), ai cI (aM 3) 40 (vM 3), ai cI (aM 4) 80 (vM 4), ai cZ (aM 5) 2 (vM 5), ai cI (aM 6) 200 (vM 6), ai cI (aM 8) 12 (vM 8), ai cI (aM 10) 12 (vM 10), ai cI (aM 18) 427 (vM 18), ai cI (aM 21) 100 (vM 21), ai cI (aM 23) 100 (vM 23), ai cI (aM 24) 100 (vM 24), ai cI (aM 26) 7 (vM 26), ai cI (aM 27) 5 (vM 27), ai cI (aM 28) 64 (vM 28)] H := hP
    have hD : va_D A [oX6 aM (st vM 0 12 (s1 + s2)) vT, ai cI (aM 1) 70 (vM 1), ai cI (aM 2) 70 (vM 2), ai cI (aM 3) 40 (vM 3), ai cI (aM 4) 80 (vM 4), ai cZ (aM 5) 2 (vM 5), ai cI (aM 6) 200 (vM 6), ai cI (aM 8) 12 (vM 8), ai cI (aM 10) 12 (vM 10), ai cI (aM 18) 427 (vM 18), ai cI (aM 21) 100 (vM 21), ai cI (aM 23) 100 (vM 23), ai cI (aM 24) 100 (vM 24), ai cI (aM 26) 7 (vM 26), ai cI (aM 27) 5 (vM 27), ai cI (aM 28) 64 (vM 28)] := hD
    obtain ⟨o107_2, ho107_2, h⟩ := bnd_some h
    refine L107 o107_2 (fun o107_2e er H locs ls hP hD hS hl => ?_) FU (st vM 0 12 (s1 + s2)) x1 ho107_2 _ _ _ hP hD hS (lv_sub hl [0, 1] rfl)
    subst er
    obtain ⟨o158_3, ho158_3, h⟩ := bnd_some h
    refine L158 o158_3 (fun o158_3e er H locs ls hP hD hS hl => ?_) FU o107_2.1 o107_2.2 ho158_3 _ _ _ hP hD hS (lv_sub hl [0, 1] rfl)
    subst er
    refine lv_aload_n hx hb dX6_next_224 rfl (lv_at hl 0 rfl) ?_
    refine va_get (D := G) (ci := 6) (v := .int (o158_3.1 0 14)) (C := RX6) (T := TX6) (N := 29) hx hb hts fi_X6_next_X6 hown hEN.1 hP 0 rfl rfl 14 (by decide) (hts (.fieldLink RX6 95 "HourWellModel" "token" "I") (List.mem_of_getElem? (i := 3) rfl)) (fun _ h9 => h9) rfl dX6_next_225 ?_
    refine lv_iconst (v := (2 : Int32)) hx hb dX6_next_228 k_iconst_2 ?_
    refine lv_icmp_ne (tgt := 264) hx hb dX6_next_229 (by decide) (fun c229 => ?_) (fun c229 => ?_)
    · have h := (if_neg c229).symm.trans h
      exact j264 o158_3.1 h _ _ _ hP hD hS (lv_sub hl [0] rfl)
    · have h := (if_pos c229).symm.trans h
      refine lv_aload_n hx hb dX6_next_232 rfl (lv_at hl 0 rfl) ?_
      refine va_get (D := G) (ci := 6) (v := .int (o158_3.1 0 15)) (C := RX6) (T := TX6) (N := 29) hx hb hts fi_X6_next_X6 hown hEN.1 hP 0 rfl rfl 15 (by decide) (hts (.fieldLink RX6 98 "HourWellModel" "value" "I") (List.mem_of_getElem? (i := 4) rfl)) (fun _ h9 => h9) rfl dX6_next_233 ?_
      refine lv_bipush (v := (99 : Int32)) hx hb dX6_next_236 k_bipush_99 ?_
      refine lv_icmp_gt (tgt := 260) hx hb dX6_next_238 (by decide) (fun c238 => ?_) (fun c238 => ?_)
      · have h := (if_pos c238).symm.trans h
        exact j260 o158_3.1 h _ _ _ hP hD hS (lv_sub hl [0] rfl)
      · have h := (if_neg c238).symm.trans h
        refine lv_iload_n hx hb dX6_next_241 rfl (lv_at hl 1 rfl) ?_
        refine lv_bipush (v := (48 : Int32)) hx hb dX6_next_242 k_bipush_48 ?_
        refine lv_icmp_ne (tgt := 264) hx hb dX6_next_244 (by decide) (fun c244 => ?_) (fun c244 => ?_)
        · have h := (if_neg c244).symm.trans h
          exact j264 o158_3.1 h _ _ _ hP hD hS (lv_sub hl [0] rfl)
        · have h := (if_pos c244).symm.trans h
          refine lv_aload_n hx hb dX6_next_247 rfl (lv_at hl 0 rfl) ?_
          refine va_get (D := G) (ci := 6) (v := .int (o158_3.1 0 12)) (C := RX6) (T := TX6) (N := 29) hx hb hts fi_X6_next_X6 hown hEN.1 hP 0 rfl rfl 12 (by decide) (hts (.fieldLink RX6 78 "HourWellModel" "at" "I") (List.mem_of_getElem? (i := 1) rfl)) (fun _ h9 => h9) rfl dX6_next_248 ?_
          refine lv_aload_n hx hb dX6_next_251 rfl (lv_at hl 0 rfl) ?_
          refine va_get (D := G) (ci := 6) (v := .int (o158_3.1 0 13)) (C := RX6) (T := TX6) (N := 29) hx hb hts fi_X6_next_X6 hown hEN.1 hP 0 rfl rfl 13 (by decide) (hts (.fieldLink RX6 85 "HourWellModel" "begin" "I") (List.mem_of_getElem? (i := 2) rfl)) (fun _ h9 => h9) rfl dX6_next_252 ?_
          refine lv_isub hx hb dX6_next_255 ?_
          refine lv_iconst (v := (1 : Int32)) hx hb dX6_next_256 k_iconst_1 ?_
          refine lv_icmp_le (tgt := 264) hx hb dX6_next_257 (by decide) (fun c257 => ?_) (fun c257 => ?_)
          · have h := (if_pos c257).symm.trans h
            exact j264 o158_3.1 h _ _ _ hP hD hS (lv_sub hl [0] rfl)
          · have h := (if_neg c257).symm.trans h
            exact j260 o158_3.1 h _ _ _ hP hD hS (lv_sub hl [0] rfl)
  have j77 : ∀ (vM : Ob) (x1 : Int32) (s1 : Int32), m_X6_next_j77  vM x1 s1 = some res → ∀ (H : Heap) (locs : List Loc) (ls : Array Slot), va_P G vwCl [oX6 aM vM vT, ai cI (aM 1) 70 (vM 1), ai cI (aM 2) 70 (vM 2), ai cI (aM 3) 40 (vM 3), ai cI (aM 4) 80 (vM 4), ai cZ (aM 5) 2 (vM 5), ai cI (aM 6) 200 (vM 6), ai cI (aM 8) 12 (vM 8), ai cI (aM 10) 12 (vM 10), ai cI (aM 18) 427 (vM 18), ai cI (aM 21) 100 (vM 21), ai cI (aM 23) 100 (vM 23), ai cI (aM 24) 100 (vM 24), ai cI (aM 26) 7 (vM 26), ai cI (aM 27) 5 (vM 27), ai cI (aM 28) 64 (vM 28)] H → va_D A [oX6 aM vM vT, ai cI (aM 1) 70 (vM 1), ai cI (aM 2) 70 (vM 2), ai cI (aM 3) 40 (vM 3), ai cI (aM 4) 80 (vM 4), ai cZ (aM 5) 2 (vM 5), ai cI (aM 6) 200 (vM 6), ai cI (aM 8) 12 (vM 8), ai cI (aM 10) 12 (vM 10), ai cI (aM 18) 427 (vM 18), ai cI (aM 21) 100 (vM 21), ai cI (aM 23) 100 (vM 23), ai cI (aM 24) 100 (vM 24), ai cI (aM 26) 7 (vM 26), ai cI (aM 27) 5 (vM 27), ai cI (aM 28) 64 (vM 28)] → va_S A s.heap H locs → lv_has ls 3 [(0, .ref (aM 0)), (1, .int x1)] → W p l e rm_X6_next s m args below meth c H locs 0 0 Q (F0 m 77 ls [.int s1, .ref (aM 0)]) := by
    intro vM x1 s1 h H locs ls hP hD hS hl
    unfold m_X6_next_j77 at h
    refine va_put (D := G) (ci := 6) (v := .int s1) (ty := .int) (C := RX6) (T := TX6) (N := 29) hx hb hts fi_X6_next_X6 tyX6 tyX6_ok nmX6 hown hEN.1 hP hD hS 0 rfl rfl 14 (by decide) (hts (.fieldLink RX6 95 "HourWellModel" "token" "I") (List.mem_of_getElem? (i := 3) rfl)) (fun _ h9 => h9) rfl (by decide +kernel) rfl rfl (Nat.le_of_ble_eq_true rfl) dX6_next_77 (fun H locs hP hD hS => ?_)
    have hP : va_P G vwCl [oX6 aM (st vM 0 14 s1) vT, ai cI (aM 1) 70 (vM 1), ai cI (aM 2) 70 (vM 2), ai cI (aM 3) 40 (vM 3), ai cI (aM 4) 80 (vM 4), ai cZ (aM 5) 2 (vM 5), ai cI (aM 6) 200 (vM 6), ai cI (aM 8) 12 (vM 8), ai cI (aM 10) 12 (vM 10), ai cI (aM 18) 427 (vM 18), ai cI (aM 21) 100 (vM 21), ai cI (aM 23) 100 (vM 23), ai cI (aM 24) 100 (vM 24), ai cI (aM 26) 7 (vM 26), ai cI (aM 27) 5 (vM 27), ai cI (aM 28) 64 (vM 28)] H := hP
    have hD : va_D A [oX6 aM (st vM 0 14 s1) vT, ai cI (aM 1) 70 (vM 1), ai cI (aM 2) 70 (vM 2), ai cI (aM 3) 40 (vM 3), ai cI (aM 4) 80 (vM 4), ai cZ (aM 5) 2 (vM 5), ai cI (aM 6) 200 (vM 6), ai cI (aM 8) 12 (vM 8), ai cI (aM 10) 12 (vM 10), ai cI (aM 18) 427 (vM 18), ai cI (aM 21) 100 (vM 21), ai cI (aM 23) 100 (vM 23), ai cI (aM 24) 100 (vM 24), ai cI (aM 26) 7 (vM 26), ai cI (aM 27) 5 (vM 27), ai cI (aM 28) 64 (vM 28)] := hD
    refine lv_aload_n hx hb dX6_next_80 rfl (lv_at hl 0 rfl) ?_
    refine lv_iconst (v := (0 : Int32)) hx hb dX6_next_81 k_iconst_0 ?_
    refine va_put (D := G) (ci := 6) (v := .int (0 : Int32)) (ty := .int) (C := RX6) (T := TX6) (N := 29) hx hb hts fi_X6_next_X6 tyX6 tyX6_ok nmX6 hown hEN.1 hP hD hS 0 rfl rfl 15 (by decide) (hts (.fieldLink RX6 98 "HourWellModel" "value" "I") (List.mem_of_getElem? (i := 4) rfl)) (fun _ h9 => h9) rfl (by decide +kernel) rfl rfl (Nat.le_of_ble_eq_true rfl) dX6_next_82 (fun H locs hP hD hS => ?_)
    have hP : va_P G vwCl [oX6 aM (st (st vM 0 14 s1) 0 15 (0 : Int32)) vT, ai cI (aM 1) 70 (vM 1), ai cI (aM 2) 70 (vM 2), ai cI (aM 3) 40 (vM 3), ai cI (aM 4) 80 (vM 4), ai cZ (aM 5) 2 (vM 5), ai cI (aM 6) 200 (vM 6), ai cI (aM 8) 12 (vM 8), ai cI (aM 10) 12 (vM 10), ai cI (aM 18) 427 (vM 18), ai cI (aM 21) 100 (vM 21), ai cI (aM 23) 100 (vM 23), ai cI (aM 24) 100 (vM 24), ai cI (aM 26) 7 (vM 26), ai cI (aM 27) 5 (vM 27), ai cI (aM 28) 64 (vM 28)] H := hP
    have hD : va_D A [oX6 aM (st (st vM 0 14 s1) 0 15 (0 : Int32)) vT, ai cI (aM 1) 70 (vM 1), ai cI (aM 2) 70 (vM 2), ai cI (aM 3) 40 (vM 3), ai cI (aM 4) 80 (vM 4), ai cZ (aM 5) 2 (vM 5), ai cI (aM 6) 200 (vM 6), ai cI (aM 8) 12 (vM 8), ai cI (aM 10) 12 (vM 10), ai cI (aM 18) 427 (vM 18), ai cI (aM 21) 100 (vM 21), ai cI (aM 23) 100 (vM 23), ai cI (aM 24) 100 (vM 24), ai cI (aM 26) 7 (vM 26), ai cI (aM 27) 5 (vM 27), ai cI (aM 28) 64 (vM 28)] := hD
    refine lv_aload_n hx hb dX6_next_85 rfl (lv_at hl 0 rfl) ?_
    refine lv_dup hx hb dX6_next_86 rfl ?_
    refine va_get (D := G) (ci := 6) (v := .int (vM 0 12)) (C := RX6) (T := TX6) (N := 29) hx hb hts fi_X6_next_X6 hown hEN.1 hP 0 rfl rfl 12 (by decide) (hts (.fieldLink RX6 78 "HourWellModel" "at" "I") (List.mem_of_getElem? (i := 1) rfl)) (fun _ h9 => h9) rfl dX6_next_87 ?_
    refine lv_aload_n hx hb dX6_next_90 rfl (lv_at hl 0 rfl) ?_
    refine va_get (D := G) (ci := 6) (v := .int s1) (C := RX6) (T := TX6) (N := 29) hx hb hts fi_X6_next_X6 hown hEN.1 hP 0 rfl rfl 14 (by decide) (hts (.fieldLink RX6 95 "HourWellModel" "token" "I") (List.mem_of_getElem? (i := 3) rfl)) (fun _ h9 => h9) rfl dX6_next_91 ?_
    refine lv_iconst (v := (2 : Int32)) hx hb dX6_next_94 k_iconst_2 ?_
    refine lv_icmp_le (tgt := 102) hx hb dX6_next_95 (by decide) (fun c95 => ?_) (fun c95 => ?_)
    · have h := (if_pos c95).symm.trans h
      refine lv_iconst (v := (0 : Int32)) hx hb dX6_next_102 k_iconst_0 ?_
      exact j103 (st (st vM 0 14 s1) 0 15 (0 : Int32)) x1 (vM 0 12) (0 : Int32) h _ _ _ hP hD hS (lv_sub hl [0, 1] rfl)
    · have h := (if_neg c95).symm.trans h
      refine lv_iconst (v := (1 : Int32)) hx hb dX6_next_98 k_iconst_1 ?_
      refine lv_goto (tgt := 103) hx hb dX6_next_99 (by decide) ?_
      exact j103 (st (st vM 0 14 s1) 0 15 (0 : Int32)) x1 (vM 0 12) (1 : Int32) h _ _ _ hP hD hS (lv_sub hl [0, 1] rfl)
  unfold m_X6_next at h
  obtain ⟨o0_1, ho0_1, h⟩ := bnd_some h
  refine L0 o0_1 (fun o0_1e er H locs ls hP hD hS hl => ?_) FU vM ho0_1 _ _ _ hP hD hS (lv_sub hl [0] rfl)
  subst er
  refine lv_aload_n hx hb dX6_next_22 rfl (lv_at hl 0 rfl) ?_
  refine lv_aload_n hx hb dX6_next_23 rfl (lv_at hl 0 rfl) ?_
  refine va_get (D := G) (ci := 6) (v := .int (o0_1 0 12)) (C := RX6) (T := TX6) (N := 29) hx hb hts fi_X6_next_X6 hown hEN.1 hP 0 rfl rfl 12 (by decide) (hts (.fieldLink RX6 78 "HourWellModel" "at" "I") (List.mem_of_getElem? (i := 1) rfl)) (fun _ h9 => h9) rfl dX6_next_24 ?_
  refine va_put (D := G) (ci := 6) (v := .int (o0_1 0 12)) (ty := .int) (C := RX6) (T := TX6) (N := 29) hx hb hts fi_X6_next_X6 tyX6 tyX6_ok nmX6 hown hEN.1 hP hD hS 0 rfl rfl 13 (by decide) (hts (.fieldLink RX6 85 "HourWellModel" "begin" "I") (List.mem_of_getElem? (i := 2) rfl)) (fun _ h9 => h9) rfl (by decide +kernel) rfl rfl (Nat.le_of_ble_eq_true rfl) dX6_next_27 (fun H locs hP hD hS => ?_)
  have hP : va_P G vwCl [oX6 aM (st o0_1 0 13 (o0_1 0 12)) vT, ai cI (aM 1) 70 (o0_1 1), ai cI (aM 2) 70 (o0_1 2), ai cI (aM 3) 40 (o0_1 3), ai cI (aM 4) 80 (o0_1 4), ai cZ (aM 5) 2 (o0_1 5), ai cI (aM 6) 200 (o0_1 6), ai cI (aM 8) 12 (o0_1 8), ai cI (aM 10) 12 (o0_1 10), ai cI (aM 18) 427 (o0_1 18), ai cI (aM 21) 100 (o0_1 21), ai cI (aM 23) 100 (o0_1 23), ai cI (aM 24) 100 (o0_1 24), ai cI (aM 26) 7 (o0_1 26), ai cI (aM 27) 5 (o0_1 27), ai cI (aM 28) 64 (o0_1 28)] H := hP
  have hD : va_D A [oX6 aM (st o0_1 0 13 (o0_1 0 12)) vT, ai cI (aM 1) 70 (o0_1 1), ai cI (aM 2) 70 (o0_1 2), ai cI (aM 3) 40 (o0_1 3), ai cI (aM 4) 80 (o0_1 4), ai cZ (aM 5) 2 (o0_1 5), ai cI (aM 6) 200 (o0_1 6), ai cI (aM 8) 12 (o0_1 8), ai cI (aM 10) 12 (o0_1 10), ai cI (aM 18) 427 (o0_1 18), ai cI (aM 21) 100 (o0_1 21), ai cI (aM 23) 100 (o0_1 23), ai cI (aM 24) 100 (o0_1 24), ai cI (aM 26) 7 (o0_1 26), ai cI (aM 27) 5 (o0_1 27), ai cI (aM 28) 64 (o0_1 28)] := hD
  refine lv_aload_n hx hb dX6_next_30 rfl (lv_at hl 0 rfl) ?_
  obtain ⟨o31, ho31, h⟩ := bnd_some h
  refine call_V0 (As := []) (rest := []) ⟨hx, hb, hml, hown, hts⟩ (c_X6_here l G cI cZ aM vT (st o0_1 0 13 (o0_1 0 12)) o31 ho31) (cwV 0 hts gX6_next_X6_here rfl rfl rfl hdV_X6_here ⟨Nat.le_of_ble_eq_true rfl, Nat.le_of_ble_eq_true rfl⟩) hEN hA hP hD hS [0, 6] rfl (by decide) 0 rfl rfl rfl hl.1 rfl (Nat.le_of_ble_eq_true rfl) dX6_next_31 ⟨Nat.le_of_ble_eq_true rfl, Nat.le_of_ble_eq_true rfl⟩ (fun H locs hP hS => ?_)
  refine lv_istore_n (lv' := [(1, .int o31), (0, .ref (aM 0))]) hx hb dX6_next_34 rfl hl (by decide) rfl (fun ls hl => ?_)
  refine lv_aload_n hx hb dX6_next_35 rfl (lv_at hl 1 rfl) ?_
  refine lv_iload_n hx hb dX6_next_36 rfl (lv_at hl 0 rfl) ?_
  refine lv_if_ge (tgt := 44) hx hb dX6_next_37 (by decide) (fun c37 => ?_) (fun c37 => ?_)
  · have h := (if_pos c37).symm.trans h
    refine lv_iload_n hx hb dX6_next_44 rfl (lv_at hl 0 rfl) ?_
    obtain ⟨o45, ho45, h⟩ := bnd_some h
    refine call_S0 (As := [.int o31]) (rest := [.ref (aM 0)]) ⟨hx, hb, hml, hown, hts⟩ (c_X6_isLetter l G cI cZ  o31 o45 ho45) (va_cwS 1 hts gX6_next_X6_isLetter rfl rfl rfl hdS_X6_isLetter ⟨Nat.le_of_ble_eq_true rfl, Nat.le_of_ble_eq_true rfl⟩) hEN hA hP hD hS [] rfl (by decide) rfl hl.1 rfl (Nat.le_of_ble_eq_true rfl) dX6_next_45 ⟨Nat.le_of_ble_eq_true rfl, Nat.le_of_ble_eq_true rfl⟩ (fun H locs hP hS => ?_)
    refine lv_if_eq (tgt := 55) hx hb dX6_next_48 (by decide) (fun c48 => ?_) (fun c48 => ?_)
    · have h := (if_pos c48).symm.trans h
      refine lv_iload_n hx hb dX6_next_55 rfl (lv_at hl 0 rfl) ?_
      obtain ⟨o56, ho56, h⟩ := bnd_some h
      refine call_S0 (As := [.int o31]) (rest := [.ref (aM 0)]) ⟨hx, hb, hml, hown, hts⟩ (c_X6_isFigure l G cI cZ  o31 o56 ho56) (va_cwS 1 hts gX6_next_X6_isFigure rfl rfl rfl hdS_X6_isFigure ⟨Nat.le_of_ble_eq_true rfl, Nat.le_of_ble_eq_true rfl⟩) hEN hA hP hD hS [] rfl (by decide) rfl hl.1 rfl (Nat.le_of_ble_eq_true rfl) dX6_next_56 ⟨Nat.le_of_ble_eq_true rfl, Nat.le_of_ble_eq_true rfl⟩ (fun H locs hP hS => ?_)
      refine lv_if_eq (tgt := 66) hx hb dX6_next_59 (by decide) (fun c59 => ?_) (fun c59 => ?_)
      · have h := (if_pos c59).symm.trans h
        refine lv_iload_n hx hb dX6_next_66 rfl (lv_at hl 0 rfl) ?_
        refine lv_bipush (v := (59 : Int32)) hx hb dX6_next_67 k_bipush_59 ?_
        refine lv_icmp_ne (tgt := 76) hx hb dX6_next_69 (by decide) (fun c69 => ?_) (fun c69 => ?_)
        · have h := (if_neg c69).symm.trans h
          refine lv_iconst (v := (4 : Int32)) hx hb dX6_next_76 k_iconst_4 ?_
          exact j77 (st o0_1 0 13 (o0_1 0 12)) o31 (4 : Int32) h _ _ _ hP hD hS (lv_sub hl [1, 0] rfl)
        · have h := (if_pos c69).symm.trans h
          refine lv_iconst (v := (3 : Int32)) hx hb dX6_next_72 k_iconst_3 ?_
          refine lv_goto (tgt := 77) hx hb dX6_next_73 (by decide) ?_
          exact j77 (st o0_1 0 13 (o0_1 0 12)) o31 (3 : Int32) h _ _ _ hP hD hS (lv_sub hl [1, 0] rfl)
      · have h := (if_neg c59).symm.trans h
        refine lv_iconst (v := (2 : Int32)) hx hb dX6_next_62 k_iconst_2 ?_
        refine lv_goto (tgt := 77) hx hb dX6_next_63 (by decide) ?_
        exact j77 (st o0_1 0 13 (o0_1 0 12)) o31 (2 : Int32) h _ _ _ hP hD hS (lv_sub hl [1, 0] rfl)
    · have h := (if_neg c48).symm.trans h
      refine lv_iconst (v := (1 : Int32)) hx hb dX6_next_51 k_iconst_1 ?_
      refine lv_goto (tgt := 77) hx hb dX6_next_52 (by decide) ?_
      exact j77 (st o0_1 0 13 (o0_1 0 12)) o31 (1 : Int32) h _ _ _ hP hD hS (lv_sub hl [1, 0] rfl)
  · have h := (if_neg c37).symm.trans h
    refine lv_iconst (v := (0 : Int32)) hx hb dX6_next_40 k_iconst_0 ?_
    refine lv_goto (tgt := 77) hx hb dX6_next_41 (by decide) ?_
    exact j77 (st o0_1 0 13 (o0_1 0 12)) o31 (0 : Int32) h _ _ _ hP hD hS (lv_sub hl [1, 0] rfl)
abbrev rm_X6_number : Room := { frames := 3, cells := 0, slots := 0, locals := 67 }
theorem fi_X6_number_X6 : ∀ w ∈ wsX60, w ∈ wsX6_number := fun _ h => List.mem_cons_of_mem _ (List.mem_append_right _ h)
theorem hdV_X6_number : yX6_number.cls = RX6 ∧ yX6_number.cls ≠ "java/lang/invoke/MethodHandle" ∧ yX6_number.cls ≠ "java/lang/invoke/VarHandle" ∧ (parseMethodDescriptor yX6_number.desc).map (fun d => d.parameters.length) = some 2 := by decide +kernel
set_option maxRecDepth 100000 in
set_option maxHeartbeats 4000000 in
theorem c_X6_number (l : Launch) (G : va_G) (cI cZ : ClassId) (aM : Nat → Nat) (vT : Int64) (vM : Ob) (x1 : Int32) (x2 : Int32) (res : Int32 × Ob) (h : m_X6_number vM x1 x2 = some res) : Ct l yX6_number wsX6_number rm_X6_number G cI cZ [.ref (aM 0), .int x1, .int x2] [oX6 aM vM vT, ai cI (aM 1) 70 (vM 1), ai cI (aM 2) 70 (vM 2), ai cI (aM 3) 40 (vM 3), ai cI (aM 4) 80 (vM 4), ai cZ (aM 5) 2 (vM 5), ai cI (aM 6) 200 (vM 6), ai cI (aM 8) 12 (vM 8), ai cI (aM 10) 12 (vM 10), ai cI (aM 18) 427 (vM 18), ai cI (aM 21) 100 (vM 21), ai cI (aM 23) 100 (vM 23), ai cI (aM 24) 100 (vM 24), ai cI (aM 26) 7 (vM 26), ai cI (aM 27) 5 (vM 27), ai cI (aM 28) 64 (vM 28)] (some (.int res.1)) [oX6 aM res.2 vT, ai cI (aM 1) 70 (res.2 1), ai cI (aM 2) 70 (res.2 2), ai cI (aM 3) 40 (res.2 3), ai cI (aM 4) 80 (res.2 4), ai cZ (aM 5) 2 (res.2 5), ai cI (aM 6) 200 (res.2 6), ai cI (aM 8) 12 (res.2 8), ai cI (aM 10) 12 (res.2 10), ai cI (aM 18) 427 (res.2 18), ai cI (aM 21) 100 (res.2 21), ai cI (aM 23) 100 (res.2 23), ai cI (aM 24) 100 (res.2 24), ai cI (aM 26) 7 (res.2 26), ai cI (aM 27) 5 (res.2 27), ai cI (aM 28) 64 (res.2 28)] := by
  refine Ct.of_z (maxL := 3) (by decide) rfl (Nat.le_of_ble_eq_true rfl) ?_
  intro p e s m below meth c args hx hb hml hown hts A hA hEN hP hD hS Q hRet ls hl
  have hown : s.vm.findClass RX6 = some m.cls := hown
  have hl : lv_has ls 3 [(0, .ref (aM 0)), (1, .int x1), (2, .int x2)] := hl
  unfold m_X6_number at h
  refine lv_aload_n hx hb dX6_number_0 rfl (lv_at hl 0 rfl) ?_
  obtain ⟨o1, ho1, h⟩ := bnd_some h
  refine call_VJ (wr := []) (As := []) (rest := []) ⟨hx, hb, hml, hown, hts⟩ (c_X6_next l G cI cZ aM vT vM o1 ho1) (cwV 0 hts gX6_number_X6_next rfl rfl rfl hdV_X6_next ⟨Nat.le_of_ble_eq_true rfl, Nat.le_of_ble_eq_true rfl⟩) hEN hA hP hD hS [0, 1, 2, 3, 4, 5, 6, 7, 8, 9, 10, 11, 12, 13, 14, 15] [] rfl (by decide) rfl (by decide) (by decide) 0 rfl rfl rfl hl.1 rfl (Nat.le_of_ble_eq_true rfl) dX6_number_1 ⟨Nat.le_of_ble_eq_true rfl, Nat.le_of_ble_eq_true rfl⟩ (fun H locs hP hD hS => ?_)
  have hP : va_P G vwCl [oX6 aM o1 vT, ai cI (aM 1) 70 (o1 1), ai cI (aM 2) 70 (o1 2), ai cI (aM 3) 40 (o1 3), ai cI (aM 4) 80 (o1 4), ai cZ (aM 5) 2 (o1 5), ai cI (aM 6) 200 (o1 6), ai cI (aM 8) 12 (o1 8), ai cI (aM 10) 12 (o1 10), ai cI (aM 18) 427 (o1 18), ai cI (aM 21) 100 (o1 21), ai cI (aM 23) 100 (o1 23), ai cI (aM 24) 100 (o1 24), ai cI (aM 26) 7 (o1 26), ai cI (aM 27) 5 (o1 27), ai cI (aM 28) 64 (o1 28)] H := hP
  have hD : va_D A [oX6 aM o1 vT, ai cI (aM 1) 70 (o1 1), ai cI (aM 2) 70 (o1 2), ai cI (aM 3) 40 (o1 3), ai cI (aM 4) 80 (o1 4), ai cZ (aM 5) 2 (o1 5), ai cI (aM 6) 200 (o1 6), ai cI (aM 8) 12 (o1 8), ai cI (aM 10) 12 (o1 10), ai cI (aM 18) 427 (o1 18), ai cI (aM 21) 100 (o1 21), ai cI (aM 23) 100 (o1 23), ai cI (aM 24) 100 (o1 24), ai cI (aM 26) 7 (o1 26), ai cI (aM 27) 5 (o1 27), ai cI (aM 28) 64 (o1 28)] := hD
  refine lv_aload_n hx hb dX6_number_4 rfl (lv_at hl 0 rfl) ?_
  refine va_get (D := G) (ci := 6) (v := .int (o1 0 14)) (C := RX6) (T := TX6) (N := 29) hx hb hts fi_X6_number_X6 hown hEN.1 hP 0 rfl rfl 14 (by decide) (hts (.fieldLink RX6 95 "HourWellModel" "token" "I") (List.mem_of_getElem? (i := 1) rfl)) (fun _ h9 => h9) rfl dX6_number_5 ?_
  refine lv_iconst (v := (2 : Int32)) hx hb dX6_number_8 k_iconst_2 ?_
  refine lv_icmp_ne (tgt := 31) hx hb dX6_number_9 (by decide) (fun c9 => ?_) (fun c9 => ?_)
  · have h := (if_neg c9).symm.trans h
    refine lv_iconst (v := (0 : Int32)) hx hb dX6_number_31 k_iconst_0 ?_
    have hres := Option.some.inj h
    subst hres
    exact hRet 32 nz0 _ _ _ hP hD hS dX6_number_32
  · have h := (if_pos c9).symm.trans h
    refine lv_aload_n hx hb dX6_number_12 rfl (lv_at hl 0 rfl) ?_
    refine va_get (D := G) (ci := 6) (v := .int (o1 0 15)) (C := RX6) (T := TX6) (N := 29) hx hb hts fi_X6_number_X6 hown hEN.1 hP 0 rfl rfl 15 (by decide) (hts (.fieldLink RX6 98 "HourWellModel" "value" "I") (List.mem_of_getElem? (i := 2) rfl)) (fun _ h9 => h9) rfl dX6_number_13 ?_
    refine lv_i2l (v := (Int32.toInt64 (o1 0 15))) hx hb dX6_number_16 rfl ?_
    refine lv_iload_n hx hb dX6_number_17 rfl (lv_at hl 1 rfl) ?_
    refine lv_i2l (v := (Int32.toInt64 x1)) hx hb dX6_number_18 rfl ?_
    refine lv_iload_n hx hb dX6_number_19 rfl (lv_at hl 2 rfl) ?_
    refine lv_i2l (v := (Int32.toInt64 x2)) hx hb dX6_number_20 rfl ?_
    obtain ⟨o21, ho21, h⟩ := bnd_some h
    refine call_S0 (As := [.long (Int32.toInt64 (o1 0 15)), .long (Int32.toInt64 x1), .long (Int32.toInt64 x2)]) (rest := []) ⟨hx, hb, hml, hown, hts⟩ (c_X6_in l G cI cZ  (Int32.toInt64 (o1 0 15)) (Int32.toInt64 x1) (Int32.toInt64 x2) o21 ho21) (va_cwS 3 hts gX6_number_X6_in rfl rfl rfl hdS_X6_in ⟨Nat.le_of_ble_eq_true rfl, Nat.le_of_ble_eq_true rfl⟩) hEN hA hP hD hS [] rfl (by decide) rfl hl.1 rfl (Nat.le_of_ble_eq_true rfl) dX6_number_21 ⟨Nat.le_of_ble_eq_true rfl, Nat.le_of_ble_eq_true rfl⟩ (fun H locs hP hS => ?_)
    refine lv_if_eq (tgt := 31) hx hb dX6_number_24 (by decide) (fun c24 => ?_) (fun c24 => ?_)
    · have h := (if_pos c24).symm.trans h
      refine lv_iconst (v := (0 : Int32)) hx hb dX6_number_31 k_iconst_0 ?_
      have hres := Option.some.inj h
      subst hres
      exact hRet 32 nz0 _ _ _ hP hD hS dX6_number_32
    · have h := (if_neg c24).symm.trans h
      refine lv_iconst (v := (1 : Int32)) hx hb dX6_number_27 k_iconst_1 ?_
      refine lv_goto (tgt := 32) hx hb dX6_number_28 (by decide) ?_
      have hres := Option.some.inj h
      subst hres
      exact hRet 32 nz1 _ _ _ hP hD hS dX6_number_32
abbrev rm_X6_takes : Room := { frames := 4, cells := 0, slots := 0, locals := 89 }
theorem fi_X6_takes_X6 : ∀ w ∈ wsX60, w ∈ wsX6_takes := fun _ h => List.mem_cons_of_mem _ (List.mem_append_right _ h)
theorem hdV_X6_takes : yX6_takes.cls = RX6 ∧ yX6_takes.cls ≠ "java/lang/invoke/MethodHandle" ∧ yX6_takes.cls ≠ "java/lang/invoke/VarHandle" ∧ (parseMethodDescriptor yX6_takes.desc).map (fun d => d.parameters.length) = some 3 := by decide +kernel
set_option maxRecDepth 100000 in
set_option maxHeartbeats 4000000 in
theorem c_X6_takes (l : Launch) (G : va_G) (cI cZ : ClassId) (aM : Nat → Nat) (vT : Int64) (vM : Ob) (x1 : Int32) (x2 : Int32) (x3 : Int32) (res : Int32 × Ob) (h : m_X6_takes vM x1 x2 x3 = some res) : Ct l yX6_takes wsX6_takes rm_X6_takes G cI cZ [.ref (aM 0), .int x1, .int x2, .int x3] [oX6 aM vM vT, ai cI (aM 1) 70 (vM 1), ai cI (aM 2) 70 (vM 2), ai cI (aM 3) 40 (vM 3), ai cI (aM 4) 80 (vM 4), ai cZ (aM 5) 2 (vM 5), ai cI (aM 6) 200 (vM 6), ai cI (aM 8) 12 (vM 8), ai cI (aM 10) 12 (vM 10), ai cI (aM 18) 427 (vM 18), ai cI (aM 21) 100 (vM 21), ai cI (aM 23) 100 (vM 23), ai cI (aM 24) 100 (vM 24), ai cI (aM 26) 7 (vM 26), ai cI (aM 27) 5 (vM 27), ai cI (aM 28) 64 (vM 28)] (some (.int res.1)) [oX6 aM res.2 vT, ai cI (aM 1) 70 (res.2 1), ai cI (aM 2) 70 (res.2 2), ai cI (aM 3) 40 (res.2 3), ai cI (aM 4) 80 (res.2 4), ai cZ (aM 5) 2 (res.2 5), ai cI (aM 6) 200 (res.2 6), ai cI (aM 8) 12 (res.2 8), ai cI (aM 10) 12 (res.2 10), ai cI (aM 18) 427 (res.2 18), ai cI (aM 21) 100 (res.2 21), ai cI (aM 23) 100 (res.2 23), ai cI (aM 24) 100 (res.2 24), ai cI (aM 26) 7 (res.2 26), ai cI (aM 27) 5 (res.2 27), ai cI (aM 28) 64 (res.2 28)] := by
  refine Ct.of_z (maxL := 5) (by decide) rfl (Nat.le_of_ble_eq_true rfl) ?_
  intro p e s m below meth c args hx hb hml hown hts A hA hEN hP hD hS Q hRet ls hl
  have hown : s.vm.findClass RX6 = some m.cls := hown
  have hl : lv_has ls 5 [(0, .ref (aM 0)), (1, .int x1), (2, .int x2), (3, .int x3)] := hl
  have j31 : ∀ (vM : Ob) (x4 : Int32) (s1 : Int32) (s2 : Int32), m_X6_takes_j31  vM x4 s1 s2 = some res → ∀ (H : Heap) (locs : List Loc) (ls : Array Slot), va_P G vwCl [oX6 aM vM vT, ai cI (aM 1) 70 (vM 1), ai cI (aM 2) 70 (vM 2), ai cI (aM 3) 40 (vM 3), ai cI (aM 4) 80 (vM 4), ai cZ (aM 5) 2 (vM 5), ai cI (aM 6) 200 (vM 6), ai cI (aM 8) 12 (vM 8), ai cI (aM 10) 12 (vM 10), ai cI (aM 18) 427 (vM 18), ai cI (aM 21) 100 (vM 21), ai cI (aM 23) 100 (vM 23), ai cI (aM 24) 100 (vM 24), ai cI (aM 26) 7 (vM 26), ai cI (aM 27) 5 (vM 27), ai cI (aM 28) 64 (vM 28)] H → va_D A [oX6 aM vM vT, ai cI (aM 1) 70 (vM 1), ai cI (aM 2) 70 (vM 2), ai cI (aM 3) 40 (vM 3), ai cI (aM 4) 80 (vM 4), ai cZ (aM 5) 2 (vM 5), ai cI (aM 6) 200 (vM 6), ai cI (aM 8) 12 (vM 8), ai cI (aM 10) 12 (vM 10), ai cI (aM 18) 427 (vM 18), ai cI (aM 21) 100 (vM 21), ai cI (aM 23) 100 (vM 23), ai cI (aM 24) 100 (vM 24), ai cI (aM 26) 7 (vM 26), ai cI (aM 27) 5 (vM 27), ai cI (aM 28) 64 (vM 28)] → va_S A s.heap H locs → lv_has ls 5 [(4, .int x4)] → W p l e rm_X6_takes s m args below meth c H locs 0 0 Q (F0 m 31 ls [.int s2, .int s1, .ref (aM 2)]) := by
    intro vM x4 s1 s2 h H locs ls hP hD hS hl
    unfold m_X6_takes_j31 at h
    obtain ⟨hg31, h⟩ := grd_some h
    refine va_iast (f := (vM 2)) hx hb hEN.1 hP hD hS 2 0 rfl rfl (inb_in hg31) dX6_takes_31 (fun H locs hP hD hS => ?_)
    have hP : va_P G vwCl [oX6 aM vM vT, ai cI (aM 1) 70 (vM 1), ai cI (aM 2) 70 (upd (vM 2) (Int32.toNatClampNeg s1) s2), ai cI (aM 3) 40 (vM 3), ai cI (aM 4) 80 (vM 4), ai cZ (aM 5) 2 (vM 5), ai cI (aM 6) 200 (vM 6), ai cI (aM 8) 12 (vM 8), ai cI (aM 10) 12 (vM 10), ai cI (aM 18) 427 (vM 18), ai cI (aM 21) 100 (vM 21), ai cI (aM 23) 100 (vM 23), ai cI (aM 24) 100 (vM 24), ai cI (aM 26) 7 (vM 26), ai cI (aM 27) 5 (vM 27), ai cI (aM 28) 64 (vM 28)] H := hP
    have hD : va_D A [oX6 aM vM vT, ai cI (aM 1) 70 (vM 1), ai cI (aM 2) 70 (upd (vM 2) (Int32.toNatClampNeg s1) s2), ai cI (aM 3) 40 (vM 3), ai cI (aM 4) 80 (vM 4), ai cZ (aM 5) 2 (vM 5), ai cI (aM 6) 200 (vM 6), ai cI (aM 8) 12 (vM 8), ai cI (aM 10) 12 (vM 10), ai cI (aM 18) 427 (vM 18), ai cI (aM 21) 100 (vM 21), ai cI (aM 23) 100 (vM 23), ai cI (aM 24) 100 (vM 24), ai cI (aM 26) 7 (vM 26), ai cI (aM 27) 5 (vM 27), ai cI (aM 28) 64 (vM 28)] := hD
    refine lv_iload hx hb dX6_takes_32 (lv_at hl 0 rfl) ?_
    obtain ⟨hg34, h⟩ := grd_some h
    have hres := Option.some.inj h
    subst hres
    exact hRet 34 (bz_n hg34) _ _ _ hP hD hS dX6_takes_34
  unfold m_X6_takes at h
  refine lv_aload_n hx hb dX6_takes_0 rfl (lv_at hl 0 rfl) ?_
  refine lv_iload_n hx hb dX6_takes_1 rfl (lv_at hl 1 rfl) ?_
  refine lv_iload_n hx hb dX6_takes_2 rfl (lv_at hl 2 rfl) ?_
  obtain ⟨o3, ho3, h⟩ := bnd_some h
  refine call_VJ (wr := []) (As := [.int x1, .int x2]) (rest := []) ⟨hx, hb, hml, hown, hts⟩ (c_X6_number l G cI cZ aM vT vM x1 x2 o3 ho3) (cwV 2 hts gX6_takes_X6_number rfl rfl rfl hdV_X6_number ⟨Nat.le_of_ble_eq_true rfl, Nat.le_of_ble_eq_true rfl⟩) hEN hA hP hD hS [0, 1, 2, 3, 4, 5, 6, 7, 8, 9, 10, 11, 12, 13, 14, 15] [] rfl (by decide) rfl (by decide) (by decide) 0 rfl rfl rfl hl.1 rfl (Nat.le_of_ble_eq_true rfl) dX6_takes_3 ⟨Nat.le_of_ble_eq_true rfl, Nat.le_of_ble_eq_true rfl⟩ (fun H locs hP hD hS => ?_)
  have hP : va_P G vwCl [oX6 aM o3.2 vT, ai cI (aM 1) 70 (o3.2 1), ai cI (aM 2) 70 (o3.2 2), ai cI (aM 3) 40 (o3.2 3), ai cI (aM 4) 80 (o3.2 4), ai cZ (aM 5) 2 (o3.2 5), ai cI (aM 6) 200 (o3.2 6), ai cI (aM 8) 12 (o3.2 8), ai cI (aM 10) 12 (o3.2 10), ai cI (aM 18) 427 (o3.2 18), ai cI (aM 21) 100 (o3.2 21), ai cI (aM 23) 100 (o3.2 23), ai cI (aM 24) 100 (o3.2 24), ai cI (aM 26) 7 (o3.2 26), ai cI (aM 27) 5 (o3.2 27), ai cI (aM 28) 64 (o3.2 28)] H := hP
  have hD : va_D A [oX6 aM o3.2 vT, ai cI (aM 1) 70 (o3.2 1), ai cI (aM 2) 70 (o3.2 2), ai cI (aM 3) 40 (o3.2 3), ai cI (aM 4) 80 (o3.2 4), ai cZ (aM 5) 2 (o3.2 5), ai cI (aM 6) 200 (o3.2 6), ai cI (aM 8) 12 (o3.2 8), ai cI (aM 10) 12 (o3.2 10), ai cI (aM 18) 427 (o3.2 18), ai cI (aM 21) 100 (o3.2 21), ai cI (aM 23) 100 (o3.2 23), ai cI (aM 24) 100 (o3.2 24), ai cI (aM 26) 7 (o3.2 26), ai cI (aM 27) 5 (o3.2 27), ai cI (aM 28) 64 (o3.2 28)] := hD
  refine lv_istore (lv' := [(4, .int o3.1), (0, .ref (aM 0)), (1, .int x1), (2, .int x2), (3, .int x3)]) hx hb dX6_takes_6 hl (by decide) rfl (fun ls hl => ?_)
  refine lv_aload_n hx hb dX6_takes_8 rfl (lv_at hl 1 rfl) ?_
  refine va_get (D := G) (ci := 6) (v := .ref (aM 2)) (C := RX6) (T := TX6) (N := 29) hx hb hts fi_X6_takes_X6 hown hEN.1 hP 0 rfl rfl 1 (by decide) (hts (.fieldLink RX6 13 "HourWellModel" "read" "[I") (List.mem_of_getElem? (i := 1) rfl)) (fun _ h9 => h9) rfl dX6_takes_9 ?_
  refine lv_iload_n hx hb dX6_takes_12 rfl (lv_at hl 4 rfl) ?_
  refine lv_iload hx hb dX6_takes_13 (lv_at hl 0 rfl) ?_
  refine lv_if_eq (tgt := 25) hx hb dX6_takes_15 (by decide) (fun c15 => ?_) (fun c15 => ?_)
  · have h := (if_pos c15).symm.trans h
    refine lv_aload_n hx hb dX6_takes_25 rfl (lv_at hl 1 rfl) ?_
    refine va_get (D := G) (ci := 6) (v := .ref (aM 2)) (C := RX6) (T := TX6) (N := 29) hx hb hts fi_X6_takes_X6 hown hEN.1 hP 0 rfl rfl 1 (by decide) (hts (.fieldLink RX6 13 "HourWellModel" "read" "[I") (List.mem_of_getElem? (i := 1) rfl)) (fun _ h9 => h9) rfl dX6_takes_26 ?_
    refine lv_iload_n hx hb dX6_takes_29 rfl (lv_at hl 4 rfl) ?_
    obtain ⟨hg30, h⟩ := grd_some h
    refine va_iald (f := (o3.2 2)) hx hb hEN.1 hP 2 0 rfl rfl (inb_in hg30) dX6_takes_30 ?_
    exact j31 o3.2 o3.1 x3 ((o3.2 2) (Int32.toNatClampNeg x3)) h _ _ _ hP hD hS (lv_sub hl [0] rfl)
  · have h := (if_neg c15).symm.trans h
    refine lv_aload_n hx hb dX6_takes_18 rfl (lv_at hl 1 rfl) ?_
    refine va_get (D := G) (ci := 6) (v := .int (o3.2 0 15)) (C := RX6) (T := TX6) (N := 29) hx hb hts fi_X6_takes_X6 hown hEN.1 hP 0 rfl rfl 15 (by decide) (hts (.fieldLink RX6 98 "HourWellModel" "value" "I") (List.mem_of_getElem? (i := 2) rfl)) (fun _ h9 => h9) rfl dX6_takes_19 ?_
    refine lv_goto (tgt := 31) hx hb dX6_takes_22 (by decide) ?_
    exact j31 o3.2 o3.1 x3 (o3.2 0 15) h _ _ _ hP hD hS (lv_sub hl [0] rfl)
abbrev rm_X6_ends : Room := { frames := 3, cells := 0, slots := 0, locals := 67 }
theorem fi_X6_ends_X6 : ∀ w ∈ wsX60, w ∈ wsX6_ends := fun _ h => List.mem_cons_of_mem _ (List.mem_append_right _ h)
theorem hdV_X6_ends : yX6_ends.cls = RX6 ∧ yX6_ends.cls ≠ "java/lang/invoke/MethodHandle" ∧ yX6_ends.cls ≠ "java/lang/invoke/VarHandle" ∧ (parseMethodDescriptor yX6_ends.desc).map (fun d => d.parameters.length) = some 0 := by decide +kernel
set_option maxRecDepth 100000 in
set_option maxHeartbeats 4000000 in
theorem c_X6_ends (l : Launch) (G : va_G) (cI cZ : ClassId) (aM : Nat → Nat) (vT : Int64) (vM : Ob)  (res : Int32 × Ob) (h : m_X6_ends vM  = some res) : Ct l yX6_ends wsX6_ends rm_X6_ends G cI cZ [.ref (aM 0)] [oX6 aM vM vT, ai cI (aM 1) 70 (vM 1), ai cI (aM 2) 70 (vM 2), ai cI (aM 3) 40 (vM 3), ai cI (aM 4) 80 (vM 4), ai cZ (aM 5) 2 (vM 5), ai cI (aM 6) 200 (vM 6), ai cI (aM 8) 12 (vM 8), ai cI (aM 10) 12 (vM 10), ai cI (aM 18) 427 (vM 18), ai cI (aM 21) 100 (vM 21), ai cI (aM 23) 100 (vM 23), ai cI (aM 24) 100 (vM 24), ai cI (aM 26) 7 (vM 26), ai cI (aM 27) 5 (vM 27), ai cI (aM 28) 64 (vM 28)] (some (.int res.1)) [oX6 aM res.2 vT, ai cI (aM 1) 70 (res.2 1), ai cI (aM 2) 70 (res.2 2), ai cI (aM 3) 40 (res.2 3), ai cI (aM 4) 80 (res.2 4), ai cZ (aM 5) 2 (res.2 5), ai cI (aM 6) 200 (res.2 6), ai cI (aM 8) 12 (res.2 8), ai cI (aM 10) 12 (res.2 10), ai cI (aM 18) 427 (res.2 18), ai cI (aM 21) 100 (res.2 21), ai cI (aM 23) 100 (res.2 23), ai cI (aM 24) 100 (res.2 24), ai cI (aM 26) 7 (res.2 26), ai cI (aM 27) 5 (res.2 27), ai cI (aM 28) 64 (res.2 28)] := by
  refine Ct.of_z (maxL := 1) (by decide) rfl (Nat.le_of_ble_eq_true rfl) ?_
  intro p e s m below meth c args hx hb hml hown hts A hA hEN hP hD hS Q hRet ls hl
  have hown : s.vm.findClass RX6 = some m.cls := hown
  have hl : lv_has ls 1 [(0, .ref (aM 0))] := hl
  unfold m_X6_ends at h
  refine lv_aload_n hx hb dX6_ends_0 rfl (lv_at hl 0 rfl) ?_
  obtain ⟨o1, ho1, h⟩ := bnd_some h
  refine call_VJ (wr := []) (As := []) (rest := []) ⟨hx, hb, hml, hown, hts⟩ (c_X6_next l G cI cZ aM vT vM o1 ho1) (cwV 0 hts gX6_ends_X6_next rfl rfl rfl hdV_X6_next ⟨Nat.le_of_ble_eq_true rfl, Nat.le_of_ble_eq_true rfl⟩) hEN hA hP hD hS [0, 1, 2, 3, 4, 5, 6, 7, 8, 9, 10, 11, 12, 13, 14, 15] [] rfl (by decide) rfl (by decide) (by decide) 0 rfl rfl rfl hl.1 rfl (Nat.le_of_ble_eq_true rfl) dX6_ends_1 ⟨Nat.le_of_ble_eq_true rfl, Nat.le_of_ble_eq_true rfl⟩ (fun H locs hP hD hS => ?_)
  have hP : va_P G vwCl [oX6 aM o1 vT, ai cI (aM 1) 70 (o1 1), ai cI (aM 2) 70 (o1 2), ai cI (aM 3) 40 (o1 3), ai cI (aM 4) 80 (o1 4), ai cZ (aM 5) 2 (o1 5), ai cI (aM 6) 200 (o1 6), ai cI (aM 8) 12 (o1 8), ai cI (aM 10) 12 (o1 10), ai cI (aM 18) 427 (o1 18), ai cI (aM 21) 100 (o1 21), ai cI (aM 23) 100 (o1 23), ai cI (aM 24) 100 (o1 24), ai cI (aM 26) 7 (o1 26), ai cI (aM 27) 5 (o1 27), ai cI (aM 28) 64 (o1 28)] H := hP
  have hD : va_D A [oX6 aM o1 vT, ai cI (aM 1) 70 (o1 1), ai cI (aM 2) 70 (o1 2), ai cI (aM 3) 40 (o1 3), ai cI (aM 4) 80 (o1 4), ai cZ (aM 5) 2 (o1 5), ai cI (aM 6) 200 (o1 6), ai cI (aM 8) 12 (o1 8), ai cI (aM 10) 12 (o1 10), ai cI (aM 18) 427 (o1 18), ai cI (aM 21) 100 (o1 21), ai cI (aM 23) 100 (o1 23), ai cI (aM 24) 100 (o1 24), ai cI (aM 26) 7 (o1 26), ai cI (aM 27) 5 (o1 27), ai cI (aM 28) 64 (o1 28)] := hD
  refine lv_aload_n hx hb dX6_ends_4 rfl (lv_at hl 0 rfl) ?_
  refine va_get (D := G) (ci := 6) (v := .int (o1 0 14)) (C := RX6) (T := TX6) (N := 29) hx hb hts fi_X6_ends_X6 hown hEN.1 hP 0 rfl rfl 14 (by decide) (hts (.fieldLink RX6 95 "HourWellModel" "token" "I") (List.mem_of_getElem? (i := 1) rfl)) (fun _ h9 => h9) rfl dX6_ends_5 ?_
  refine lv_iconst (v := (3 : Int32)) hx hb dX6_ends_8 k_iconst_3 ?_
  refine lv_icmp_ne (tgt := 16) hx hb dX6_ends_9 (by decide) (fun c9 => ?_) (fun c9 => ?_)
  · have h := (if_neg c9).symm.trans h
    refine lv_iconst (v := (0 : Int32)) hx hb dX6_ends_16 k_iconst_0 ?_
    have hres := Option.some.inj h
    subst hres
    exact hRet 17 nz0 _ _ _ hP hD hS dX6_ends_17
  · have h := (if_pos c9).symm.trans h
    refine lv_iconst (v := (1 : Int32)) hx hb dX6_ends_12 k_iconst_1 ?_
    refine lv_goto (tgt := 17) hx hb dX6_ends_13 (by decide) ?_
    have hres := Option.some.inj h
    subst hres
    exact hRet 17 nz1 _ _ _ hP hD hS dX6_ends_17
abbrev rm_X6_places : Room := { frames := 4, cells := 0, slots := 0, locals := 87 }
theorem fi_X6_places_X6 : ∀ w ∈ wsX60, w ∈ wsX6_places := fun _ h => List.mem_cons_of_mem _ (List.mem_append_right _ h)
theorem hdV_X6_places : yX6_places.cls = RX6 ∧ yX6_places.cls ≠ "java/lang/invoke/MethodHandle" ∧ yX6_places.cls ≠ "java/lang/invoke/VarHandle" ∧ (parseMethodDescriptor yX6_places.desc).map (fun d => d.parameters.length) = some 0 := by decide +kernel
set_option maxRecDepth 100000 in
set_option maxHeartbeats 4000000 in
theorem c_X6_places (l : Launch) (G : va_G) (cI cZ : ClassId) (aM : Nat → Nat) (vT : Int64) (vM : Ob)  (res : Int32 × Ob) (h : m_X6_places vM  = some res) : Ct l yX6_places wsX6_places rm_X6_places G cI cZ [.ref (aM 0)] [oX6 aM vM vT, ai cI (aM 1) 70 (vM 1), ai cI (aM 2) 70 (vM 2), ai cI (aM 3) 40 (vM 3), ai cI (aM 4) 80 (vM 4), ai cZ (aM 5) 2 (vM 5), ai cI (aM 6) 200 (vM 6), ai cI (aM 8) 12 (vM 8), ai cI (aM 10) 12 (vM 10), ai cI (aM 18) 427 (vM 18), ai cI (aM 21) 100 (vM 21), ai cI (aM 23) 100 (vM 23), ai cI (aM 24) 100 (vM 24), ai cI (aM 26) 7 (vM 26), ai cI (aM 27) 5 (vM 27), ai cI (aM 28) 64 (vM 28)] (some (.int res.1)) [oX6 aM res.2 vT, ai cI (aM 1) 70 (res.2 1), ai cI (aM 2) 70 (res.2 2), ai cI (aM 3) 40 (res.2 3), ai cI (aM 4) 80 (res.2 4), ai cZ (aM 5) 2 (res.2 5), ai cI (aM 6) 200 (res.2 6), ai cI (aM 8) 12 (res.2 8), ai cI (aM 10) 12 (res.2 10), ai cI (aM 18) 427 (res.2 18), ai cI (aM 21) 100 (res.2 21), ai cI (aM 23) 100 (res.2 23), ai cI (aM 24) 100 (res.2 24), ai cI (aM 26) 7 (res.2 26), ai cI (aM 27) 5 (res.2 27), ai cI (aM 28) 64 (res.2 28)] := by
  refine Ct.of_z (maxL := 1) (by decide) rfl (Nat.le_of_ble_eq_true rfl) ?_
  intro p e s m below meth c args hx hb hml hown hts A hA hEN hP hD hS Q hRet ls hl
  have hown : s.vm.findClass RX6 = some m.cls := hown
  have hl : lv_has ls 1 [(0, .ref (aM 0))] := hl
  unfold m_X6_places at h
  refine lv_aload_n hx hb dX6_places_0 rfl (lv_at hl 0 rfl) ?_
  refine va_get (D := G) (ci := 6) (v := .ref (aM 2)) (C := RX6) (T := TX6) (N := 29) hx hb hts fi_X6_places_X6 hown hEN.1 hP 0 rfl rfl 1 (by decide) (hts (.fieldLink RX6 13 "HourWellModel" "read" "[I") (List.mem_of_getElem? (i := 1) rfl)) (fun _ h9 => h9) rfl dX6_places_1 ?_
  refine lv_iconst (v := (0 : Int32)) hx hb dX6_places_4 k_iconst_0 ?_
  refine va_iald (f := (vM 2)) hx hb hEN.1 hP 2 0 rfl rfl (inb_in (i := (0 : Int32)) (n := 70) rfl) dX6_places_5 ?_
  refine lv_bipush (v := (7 : Int32)) hx hb dX6_places_6 k_bipush_7 ?_
  refine lv_icmp_ne (tgt := 13) hx hb dX6_places_8 (by decide) (fun c8 => ?_) (fun c8 => ?_)
  · have h := (if_neg c8).symm.trans h
    refine lv_aload_n hx hb dX6_places_13 rfl (lv_at hl 0 rfl) ?_
    refine va_get (D := G) (ci := 6) (v := .ref (aM 2)) (C := RX6) (T := TX6) (N := 29) hx hb hts fi_X6_places_X6 hown hEN.1 hP 0 rfl rfl 1 (by decide) (hts (.fieldLink RX6 13 "HourWellModel" "read" "[I") (List.mem_of_getElem? (i := 1) rfl)) (fun _ h9 => h9) rfl dX6_places_14 ?_
    refine lv_iconst (v := (0 : Int32)) hx hb dX6_places_17 k_iconst_0 ?_
    refine lv_dup2_11 hx hb dX6_places_18 rfl rfl ?_
    refine va_iald (f := (vM 2)) hx hb hEN.1 hP 2 0 rfl rfl (inb_in (i := (0 : Int32)) (n := 70) rfl) dX6_places_19 ?_
    refine lv_iconst (v := (1 : Int32)) hx hb dX6_places_20 k_iconst_1 ?_
    refine lv_iadd hx hb dX6_places_21 ?_
    refine va_iast (f := (vM 2)) hx hb hEN.1 hP hD hS 2 0 rfl rfl (inb_in (i := (0 : Int32)) (n := 70) rfl) dX6_places_22 (fun H locs hP hD hS => ?_)
    have hP : va_P G vwCl [oX6 aM vM vT, ai cI (aM 1) 70 (vM 1), ai cI (aM 2) 70 (upd (vM 2) (Int32.toNatClampNeg (0 : Int32)) (((vM 2) (Int32.toNatClampNeg (0 : Int32))) + (1 : Int32))), ai cI (aM 3) 40 (vM 3), ai cI (aM 4) 80 (vM 4), ai cZ (aM 5) 2 (vM 5), ai cI (aM 6) 200 (vM 6), ai cI (aM 8) 12 (vM 8), ai cI (aM 10) 12 (vM 10), ai cI (aM 18) 427 (vM 18), ai cI (aM 21) 100 (vM 21), ai cI (aM 23) 100 (vM 23), ai cI (aM 24) 100 (vM 24), ai cI (aM 26) 7 (vM 26), ai cI (aM 27) 5 (vM 27), ai cI (aM 28) 64 (vM 28)] H := hP
    have hD : va_D A [oX6 aM vM vT, ai cI (aM 1) 70 (vM 1), ai cI (aM 2) 70 (upd (vM 2) (Int32.toNatClampNeg (0 : Int32)) (((vM 2) (Int32.toNatClampNeg (0 : Int32))) + (1 : Int32))), ai cI (aM 3) 40 (vM 3), ai cI (aM 4) 80 (vM 4), ai cZ (aM 5) 2 (vM 5), ai cI (aM 6) 200 (vM 6), ai cI (aM 8) 12 (vM 8), ai cI (aM 10) 12 (vM 10), ai cI (aM 18) 427 (vM 18), ai cI (aM 21) 100 (vM 21), ai cI (aM 23) 100 (vM 23), ai cI (aM 24) 100 (vM 24), ai cI (aM 26) 7 (vM 26), ai cI (aM 27) 5 (vM 27), ai cI (aM 28) 64 (vM 28)] := hD
    refine lv_aload_n hx hb dX6_places_23 rfl (lv_at hl 0 rfl) ?_
    obtain ⟨o24, ho24, h⟩ := bnd_some h
    refine call_VJ (wr := []) (As := []) (rest := []) ⟨hx, hb, hml, hown, hts⟩ (c_X6_ends l G cI cZ aM vT (st vM 2 (Int32.toNatClampNeg (0 : Int32)) (((vM 2) (Int32.toNatClampNeg (0 : Int32))) + (1 : Int32))) o24 ho24) (cwV 0 hts gX6_places_X6_ends rfl rfl rfl hdV_X6_ends ⟨Nat.le_of_ble_eq_true rfl, Nat.le_of_ble_eq_true rfl⟩) hEN hA hP hD hS [0, 1, 2, 3, 4, 5, 6, 7, 8, 9, 10, 11, 12, 13, 14, 15] [] rfl (by decide) rfl (by decide) (by decide) 0 rfl rfl rfl hl.1 rfl (Nat.le_of_ble_eq_true rfl) dX6_places_24 ⟨Nat.le_of_ble_eq_true rfl, Nat.le_of_ble_eq_true rfl⟩ (fun H locs hP hD hS => ?_)
    have hP : va_P G vwCl [oX6 aM o24.2 vT, ai cI (aM 1) 70 (o24.2 1), ai cI (aM 2) 70 (o24.2 2), ai cI (aM 3) 40 (o24.2 3), ai cI (aM 4) 80 (o24.2 4), ai cZ (aM 5) 2 (o24.2 5), ai cI (aM 6) 200 (o24.2 6), ai cI (aM 8) 12 (o24.2 8), ai cI (aM 10) 12 (o24.2 10), ai cI (aM 18) 427 (o24.2 18), ai cI (aM 21) 100 (o24.2 21), ai cI (aM 23) 100 (o24.2 23), ai cI (aM 24) 100 (o24.2 24), ai cI (aM 26) 7 (o24.2 26), ai cI (aM 27) 5 (o24.2 27), ai cI (aM 28) 64 (o24.2 28)] H := hP
    have hD : va_D A [oX6 aM o24.2 vT, ai cI (aM 1) 70 (o24.2 1), ai cI (aM 2) 70 (o24.2 2), ai cI (aM 3) 40 (o24.2 3), ai cI (aM 4) 80 (o24.2 4), ai cZ (aM 5) 2 (o24.2 5), ai cI (aM 6) 200 (o24.2 6), ai cI (aM 8) 12 (o24.2 8), ai cI (aM 10) 12 (o24.2 10), ai cI (aM 18) 427 (o24.2 18), ai cI (aM 21) 100 (o24.2 21), ai cI (aM 23) 100 (o24.2 23), ai cI (aM 24) 100 (o24.2 24), ai cI (aM 26) 7 (o24.2 26), ai cI (aM 27) 5 (o24.2 27), ai cI (aM 28) 64 (o24.2 28)] := hD
    obtain ⟨hg27, h⟩ := grd_some h
    have hres := Option.some.inj h
    subst hres
    exact hRet 27 (bz_n hg27) _ _ _ hP hD hS dX6_places_27
  · have h := (if_pos c8).symm.trans h
    refine lv_iconst (v := (0 : Int32)) hx hb dX6_places_11 k_iconst_0 ?_
    have hres := Option.some.inj h
    subst hres
    exact hRet 12 nz0 _ _ _ hP hD hS dX6_places_12
abbrev rm_X6_roads : Room := { frames := 5, cells := 0, slots := 0, locals := 113 }
theorem fi_X6_roads_X6 : ∀ w ∈ wsX60, w ∈ wsX6_roads := fun _ h => List.mem_cons_of_mem _ (List.mem_append_right _ h)
theorem hdV_X6_roads : yX6_roads.cls = RX6 ∧ yX6_roads.cls ≠ "java/lang/invoke/MethodHandle" ∧ yX6_roads.cls ≠ "java/lang/invoke/VarHandle" ∧ (parseMethodDescriptor yX6_roads.desc).map (fun d => d.parameters.length) = some 0 := by decide +kernel
set_option maxRecDepth 100000 in
set_option maxHeartbeats 4000000 in
theorem c_X6_roads (l : Launch) (G : va_G) (cI cZ : ClassId) (aM : Nat → Nat) (vT : Int64) (vM : Ob)  (res : Int32 × Ob) (h : m_X6_roads vM  = some res) : Ct l yX6_roads wsX6_roads rm_X6_roads G cI cZ [.ref (aM 0)] [oX6 aM vM vT, ai cI (aM 1) 70 (vM 1), ai cI (aM 2) 70 (vM 2), ai cI (aM 3) 40 (vM 3), ai cI (aM 4) 80 (vM 4), ai cZ (aM 5) 2 (vM 5), ai cI (aM 6) 200 (vM 6), ai cI (aM 8) 12 (vM 8), ai cI (aM 10) 12 (vM 10), ai cI (aM 18) 427 (vM 18), ai cI (aM 21) 100 (vM 21), ai cI (aM 23) 100 (vM 23), ai cI (aM 24) 100 (vM 24), ai cI (aM 26) 7 (vM 26), ai cI (aM 27) 5 (vM 27), ai cI (aM 28) 64 (vM 28)] (some (.int res.1)) [oX6 aM res.2 vT, ai cI (aM 1) 70 (res.2 1), ai cI (aM 2) 70 (res.2 2), ai cI (aM 3) 40 (res.2 3), ai cI (aM 4) 80 (res.2 4), ai cZ (aM 5) 2 (res.2 5), ai cI (aM 6) 200 (res.2 6), ai cI (aM 8) 12 (res.2 8), ai cI (aM 10) 12 (res.2 10), ai cI (aM 18) 427 (res.2 18), ai cI (aM 21) 100 (res.2 21), ai cI (aM 23) 100 (res.2 23), ai cI (aM 24) 100 (res.2 24), ai cI (aM 26) 7 (res.2 26), ai cI (aM 27) 5 (res.2 27), ai cI (aM 28) 64 (res.2 28)] := by
  refine Ct.of_z (maxL := 3) (by decide) rfl (Nat.le_of_ble_eq_true rfl) ?_
  intro p e s m below meth c args hx hb hml hown hts A hA hEN hP hD hS Q hRet ls hl
  have hown : s.vm.findClass RX6 = some m.cls := hown
  have hl : lv_has ls 3 [(0, .ref (aM 0))] := hl
  unfold m_X6_roads at h
  refine lv_aload_n hx hb dX6_roads_0 rfl (lv_at hl 0 rfl) ?_
  refine va_get (D := G) (ci := 6) (v := .ref (aM 2)) (C := RX6) (T := TX6) (N := 29) hx hb hts fi_X6_roads_X6 hown hEN.1 hP 0 rfl rfl 1 (by decide) (hts (.fieldLink RX6 13 "HourWellModel" "read" "[I") (List.mem_of_getElem? (i := 1) rfl)) (fun _ h9 => h9) rfl dX6_roads_1 ?_
  refine lv_iconst (v := (1 : Int32)) hx hb dX6_roads_4 k_iconst_1 ?_
  refine va_iald (f := (vM 2)) hx hb hEN.1 hP 2 0 rfl rfl (inb_in (i := (1 : Int32)) (n := 70) rfl) dX6_roads_5 ?_
  refine lv_istore_n (lv' := [(1, .int ((vM 2) (Int32.toNatClampNeg (1 : Int32)))), (0, .ref (aM 0))]) hx hb dX6_roads_6 rfl hl (by decide) rfl (fun ls hl => ?_)
  refine lv_aload_n hx hb dX6_roads_7 rfl (lv_at hl 1 rfl) ?_
  refine va_get (D := G) (ci := 6) (v := .ref (aM 2)) (C := RX6) (T := TX6) (N := 29) hx hb hts fi_X6_roads_X6 hown hEN.1 hP 0 rfl rfl 1 (by decide) (hts (.fieldLink RX6 13 "HourWellModel" "read" "[I") (List.mem_of_getElem? (i := 1) rfl)) (fun _ h9 => h9) rfl dX6_roads_8 ?_
  refine lv_iconst (v := (0 : Int32)) hx hb dX6_roads_11 k_iconst_0 ?_
  refine va_iald (f := (vM 2)) hx hb hEN.1 hP 2 0 rfl rfl (inb_in (i := (0 : Int32)) (n := 70) rfl) dX6_roads_12 ?_
  refine lv_iconst (v := (1 : Int32)) hx hb dX6_roads_13 k_iconst_1 ?_
  refine lv_isub hx hb dX6_roads_14 ?_
  refine lv_istore_n (lv' := [(2, .int (((vM 2) (Int32.toNatClampNeg (0 : Int32))) - (1 : Int32))), (1, .int ((vM 2) (Int32.toNatClampNeg (1 : Int32)))), (0, .ref (aM 0))]) hx hb dX6_roads_15 rfl hl (by decide) rfl (fun ls hl => ?_)
  refine lv_iload_n hx hb dX6_roads_16 rfl (lv_at hl 1 rfl) ?_
  refine lv_bipush (v := (9 : Int32)) hx hb dX6_roads_17 k_bipush_9 ?_
  refine lv_icmp_eq (tgt := 83) hx hb dX6_roads_19 (by decide) (fun c19 => ?_) (fun c19 => ?_)
  · have h := (if_pos c19).symm.trans h
    refine lv_iconst (v := (0 : Int32)) hx hb dX6_roads_83 k_iconst_0 ?_
    have hres := Option.some.inj h
    subst hres
    exact hRet 84 nz0 _ _ _ hP hD hS dX6_roads_84
  · have h := (if_neg c19).symm.trans h
    refine lv_aload_n hx hb dX6_roads_22 rfl (lv_at hl 2 rfl) ?_
    refine lv_iconst (v := (0 : Int32)) hx hb dX6_roads_23 k_iconst_0 ?_
    refine lv_iload_n hx hb dX6_roads_24 rfl (lv_at hl 0 rfl) ?_
    refine lv_bipush (v := (25 : Int32)) hx hb dX6_roads_25 k_bipush_25 ?_
    refine lv_iload_n hx hb dX6_roads_27 rfl (lv_at hl 1 rfl) ?_
    refine lv_iadd hx hb dX6_roads_28 ?_
    obtain ⟨o29, ho29, h⟩ := bnd_some h
    refine call_VJ (wr := []) (As := [.int (0 : Int32), .int (((vM 2) (Int32.toNatClampNeg (0 : Int32))) - (1 : Int32)), .int ((25 : Int32) + ((vM 2) (Int32.toNatClampNeg (1 : Int32))))]) (rest := []) ⟨hx, hb, hml, hown, hts⟩ (c_X6_takes l G cI cZ aM vT vM (0 : Int32) (((vM 2) (Int32.toNatClampNeg (0 : Int32))) - (1 : Int32)) ((25 : Int32) + ((vM 2) (Int32.toNatClampNeg (1 : Int32)))) o29 ho29) (cwV 3 hts gX6_roads_X6_takes rfl rfl rfl hdV_X6_takes ⟨Nat.le_of_ble_eq_true rfl, Nat.le_of_ble_eq_true rfl⟩) hEN hA hP hD hS [0, 1, 2, 3, 4, 5, 6, 7, 8, 9, 10, 11, 12, 13, 14, 15] [] rfl (by decide) rfl (by decide) (by decide) 0 rfl rfl rfl hl.1 rfl (Nat.le_of_ble_eq_true rfl) dX6_roads_29 ⟨Nat.le_of_ble_eq_true rfl, Nat.le_of_ble_eq_true rfl⟩ (fun H locs hP hD hS => ?_)
    have hP : va_P G vwCl [oX6 aM o29.2 vT, ai cI (aM 1) 70 (o29.2 1), ai cI (aM 2) 70 (o29.2 2), ai cI (aM 3) 40 (o29.2 3), ai cI (aM 4) 80 (o29.2 4), ai cZ (aM 5) 2 (o29.2 5), ai cI (aM 6) 200 (o29.2 6), ai cI (aM 8) 12 (o29.2 8), ai cI (aM 10) 12 (o29.2 10), ai cI (aM 18) 427 (o29.2 18), ai cI (aM 21) 100 (o29.2 21), ai cI (aM 23) 100 (o29.2 23), ai cI (aM 24) 100 (o29.2 24), ai cI (aM 26) 7 (o29.2 26), ai cI (aM 27) 5 (o29.2 27), ai cI (aM 28) 64 (o29.2 28)] H := hP
    have hD : va_D A [oX6 aM o29.2 vT, ai cI (aM 1) 70 (o29.2 1), ai cI (aM 2) 70 (o29.2 2), ai cI (aM 3) 40 (o29.2 3), ai cI (aM 4) 80 (o29.2 4), ai cZ (aM 5) 2 (o29.2 5), ai cI (aM 6) 200 (o29.2 6), ai cI (aM 8) 12 (o29.2 8), ai cI (aM 10) 12 (o29.2 10), ai cI (aM 18) 427 (o29.2 18), ai cI (aM 21) 100 (o29.2 21), ai cI (aM 23) 100 (o29.2 23), ai cI (aM 24) 100 (o29.2 24), ai cI (aM 26) 7 (o29.2 26), ai cI (aM 27) 5 (o29.2 27), ai cI (aM 28) 64 (o29.2 28)] := hD
    refine lv_if_eq (tgt := 83) hx hb dX6_roads_32 (by decide) (fun c32 => ?_) (fun c32 => ?_)
    · have h := (if_pos c32).symm.trans h
      refine lv_iconst (v := (0 : Int32)) hx hb dX6_roads_83 k_iconst_0 ?_
      have hres := Option.some.inj h
      subst hres
      exact hRet 84 nz0 _ _ _ hP hD hS dX6_roads_84
    · have h := (if_neg c32).symm.trans h
      refine lv_aload_n hx hb dX6_roads_35 rfl (lv_at hl 2 rfl) ?_
      refine lv_iconst (v := (0 : Int32)) hx hb dX6_roads_36 k_iconst_0 ?_
      refine lv_iload_n hx hb dX6_roads_37 rfl (lv_at hl 0 rfl) ?_
      refine lv_bipush (v := (34 : Int32)) hx hb dX6_roads_38 k_bipush_34 ?_
      refine lv_iload_n hx hb dX6_roads_40 rfl (lv_at hl 1 rfl) ?_
      refine lv_iadd hx hb dX6_roads_41 ?_
      obtain ⟨o42, ho42, h⟩ := bnd_some h
      refine call_VJ (wr := []) (As := [.int (0 : Int32), .int (((vM 2) (Int32.toNatClampNeg (0 : Int32))) - (1 : Int32)), .int ((34 : Int32) + ((vM 2) (Int32.toNatClampNeg (1 : Int32))))]) (rest := []) ⟨hx, hb, hml, hown, hts⟩ (c_X6_takes l G cI cZ aM vT o29.2 (0 : Int32) (((vM 2) (Int32.toNatClampNeg (0 : Int32))) - (1 : Int32)) ((34 : Int32) + ((vM 2) (Int32.toNatClampNeg (1 : Int32)))) o42 ho42) (cwV 3 hts gX6_roads_X6_takes rfl rfl rfl hdV_X6_takes ⟨Nat.le_of_ble_eq_true rfl, Nat.le_of_ble_eq_true rfl⟩) hEN hA hP hD hS [0, 1, 2, 3, 4, 5, 6, 7, 8, 9, 10, 11, 12, 13, 14, 15] [] rfl (by decide) rfl (by decide) (by decide) 0 rfl rfl rfl hl.1 rfl (Nat.le_of_ble_eq_true rfl) dX6_roads_42 ⟨Nat.le_of_ble_eq_true rfl, Nat.le_of_ble_eq_true rfl⟩ (fun H locs hP hD hS => ?_)
      have hP : va_P G vwCl [oX6 aM o42.2 vT, ai cI (aM 1) 70 (o42.2 1), ai cI (aM 2) 70 (o42.2 2), ai cI (aM 3) 40 (o42.2 3), ai cI (aM 4) 80 (o42.2 4), ai cZ (aM 5) 2 (o42.2 5), ai cI (aM 6) 200 (o42.2 6), ai cI (aM 8) 12 (o42.2 8), ai cI (aM 10) 12 (o42.2 10), ai cI (aM 18) 427 (o42.2 18), ai cI (aM 21) 100 (o42.2 21), ai cI (aM 23) 100 (o42.2 23), ai cI (aM 24) 100 (o42.2 24), ai cI (aM 26) 7 (o42.2 26), ai cI (aM 27) 5 (o42.2 27), ai cI (aM 28) 64 (o42.2 28)] H := hP
      have hD : va_D A [oX6 aM o42.2 vT, ai cI (aM 1) 70 (o42.2 1), ai cI (aM 2) 70 (o42.2 2), ai cI (aM 3) 40 (o42.2 3), ai cI (aM 4) 80 (o42.2 4), ai cZ (aM 5) 2 (o42.2 5), ai cI (aM 6) 200 (o42.2 6), ai cI (aM 8) 12 (o42.2 8), ai cI (aM 10) 12 (o42.2 10), ai cI (aM 18) 427 (o42.2 18), ai cI (aM 21) 100 (o42.2 21), ai cI (aM 23) 100 (o42.2 23), ai cI (aM 24) 100 (o42.2 24), ai cI (aM 26) 7 (o42.2 26), ai cI (aM 27) 5 (o42.2 27), ai cI (aM 28) 64 (o42.2 28)] := hD
      refine lv_if_eq (tgt := 83) hx hb dX6_roads_45 (by decide) (fun c45 => ?_) (fun c45 => ?_)
      · have h := (if_pos c45).symm.trans h
        refine lv_iconst (v := (0 : Int32)) hx hb dX6_roads_83 k_iconst_0 ?_
        have hres := Option.some.inj h
        subst hres
        exact hRet 84 nz0 _ _ _ hP hD hS dX6_roads_84
      · have h := (if_neg c45).symm.trans h
        refine lv_aload_n hx hb dX6_roads_48 rfl (lv_at hl 2 rfl) ?_
        refine va_get (D := G) (ci := 6) (v := .ref (aM 2)) (C := RX6) (T := TX6) (N := 29) hx hb hts fi_X6_roads_X6 hown hEN.1 hP 0 rfl rfl 1 (by decide) (hts (.fieldLink RX6 13 "HourWellModel" "read" "[I") (List.mem_of_getElem? (i := 1) rfl)) (fun _ h9 => h9) rfl dX6_roads_49 ?_
        refine lv_bipush (v := (25 : Int32)) hx hb dX6_roads_52 k_bipush_25 ?_
        refine lv_iload_n hx hb dX6_roads_54 rfl (lv_at hl 1 rfl) ?_
        refine lv_iadd hx hb dX6_roads_55 ?_
        obtain ⟨hg56, h⟩ := grd_some h
        refine va_iald (f := (o42.2 2)) hx hb hEN.1 hP 2 0 rfl rfl (inb_in hg56) dX6_roads_56 ?_
        refine lv_aload_n hx hb dX6_roads_57 rfl (lv_at hl 2 rfl) ?_
        refine va_get (D := G) (ci := 6) (v := .ref (aM 2)) (C := RX6) (T := TX6) (N := 29) hx hb hts fi_X6_roads_X6 hown hEN.1 hP 0 rfl rfl 1 (by decide) (hts (.fieldLink RX6 13 "HourWellModel" "read" "[I") (List.mem_of_getElem? (i := 1) rfl)) (fun _ h9 => h9) rfl dX6_roads_58 ?_
        refine lv_bipush (v := (34 : Int32)) hx hb dX6_roads_61 k_bipush_34 ?_
        refine lv_iload_n hx hb dX6_roads_63 rfl (lv_at hl 1 rfl) ?_
        refine lv_iadd hx hb dX6_roads_64 ?_
        obtain ⟨hg65, h⟩ := grd_some h
        refine va_iald (f := (o42.2 2)) hx hb hEN.1 hP 2 0 rfl rfl (inb_in hg65) dX6_roads_65 ?_
        refine lv_icmp_eq (tgt := 83) hx hb dX6_roads_66 (by decide) (fun c66 => ?_) (fun c66 => ?_)
        · have h := (if_pos c66).symm.trans h
          refine lv_iconst (v := (0 : Int32)) hx hb dX6_roads_83 k_iconst_0 ?_
          have hres := Option.some.inj h
          subst hres
          exact hRet 84 nz0 _ _ _ hP hD hS dX6_roads_84
        · have h := (if_neg c66).symm.trans h
          refine lv_aload_n hx hb dX6_roads_69 rfl (lv_at hl 2 rfl) ?_
          refine lv_iconst (v := (1 : Int32)) hx hb dX6_roads_70 k_iconst_1 ?_
          refine lv_bipush (v := (9 : Int32)) hx hb dX6_roads_71 k_bipush_9 ?_
          refine lv_bipush (v := (43 : Int32)) hx hb dX6_roads_73 k_bipush_43 ?_
          refine lv_iload_n hx hb dX6_roads_75 rfl (lv_at hl 1 rfl) ?_
          refine lv_iadd hx hb dX6_roads_76 ?_
          obtain ⟨o77, ho77, h⟩ := bnd_some h
          refine call_VJ (wr := []) (As := [.int (1 : Int32), .int (9 : Int32), .int ((43 : Int32) + ((vM 2) (Int32.toNatClampNeg (1 : Int32))))]) (rest := []) ⟨hx, hb, hml, hown, hts⟩ (c_X6_takes l G cI cZ aM vT o42.2 (1 : Int32) (9 : Int32) ((43 : Int32) + ((vM 2) (Int32.toNatClampNeg (1 : Int32)))) o77 ho77) (cwV 3 hts gX6_roads_X6_takes rfl rfl rfl hdV_X6_takes ⟨Nat.le_of_ble_eq_true rfl, Nat.le_of_ble_eq_true rfl⟩) hEN hA hP hD hS [0, 1, 2, 3, 4, 5, 6, 7, 8, 9, 10, 11, 12, 13, 14, 15] [] rfl (by decide) rfl (by decide) (by decide) 0 rfl rfl rfl hl.1 rfl (Nat.le_of_ble_eq_true rfl) dX6_roads_77 ⟨Nat.le_of_ble_eq_true rfl, Nat.le_of_ble_eq_true rfl⟩ (fun H locs hP hD hS => ?_)
          have hP : va_P G vwCl [oX6 aM o77.2 vT, ai cI (aM 1) 70 (o77.2 1), ai cI (aM 2) 70 (o77.2 2), ai cI (aM 3) 40 (o77.2 3), ai cI (aM 4) 80 (o77.2 4), ai cZ (aM 5) 2 (o77.2 5), ai cI (aM 6) 200 (o77.2 6), ai cI (aM 8) 12 (o77.2 8), ai cI (aM 10) 12 (o77.2 10), ai cI (aM 18) 427 (o77.2 18), ai cI (aM 21) 100 (o77.2 21), ai cI (aM 23) 100 (o77.2 23), ai cI (aM 24) 100 (o77.2 24), ai cI (aM 26) 7 (o77.2 26), ai cI (aM 27) 5 (o77.2 27), ai cI (aM 28) 64 (o77.2 28)] H := hP
          have hD : va_D A [oX6 aM o77.2 vT, ai cI (aM 1) 70 (o77.2 1), ai cI (aM 2) 70 (o77.2 2), ai cI (aM 3) 40 (o77.2 3), ai cI (aM 4) 80 (o77.2 4), ai cZ (aM 5) 2 (o77.2 5), ai cI (aM 6) 200 (o77.2 6), ai cI (aM 8) 12 (o77.2 8), ai cI (aM 10) 12 (o77.2 10), ai cI (aM 18) 427 (o77.2 18), ai cI (aM 21) 100 (o77.2 21), ai cI (aM 23) 100 (o77.2 23), ai cI (aM 24) 100 (o77.2 24), ai cI (aM 26) 7 (o77.2 26), ai cI (aM 27) 5 (o77.2 27), ai cI (aM 28) 64 (o77.2 28)] := hD
          refine lv_if_ne (tgt := 85) hx hb dX6_roads_80 (by decide) (fun c80 => ?_) (fun c80 => ?_)
          · have h := (if_neg c80).symm.trans h
            refine lv_aload_n hx hb dX6_roads_85 rfl (lv_at hl 2 rfl) ?_
            refine va_get (D := G) (ci := 6) (v := .ref (aM 2)) (C := RX6) (T := TX6) (N := 29) hx hb hts fi_X6_roads_X6 hown hEN.1 hP 0 rfl rfl 1 (by decide) (hts (.fieldLink RX6 13 "HourWellModel" "read" "[I") (List.mem_of_getElem? (i := 1) rfl)) (fun _ h9 => h9) rfl dX6_roads_86 ?_
            refine lv_iconst (v := (1 : Int32)) hx hb dX6_roads_89 k_iconst_1 ?_
            refine lv_dup2_11 hx hb dX6_roads_90 rfl rfl ?_
            refine va_iald (f := (o77.2 2)) hx hb hEN.1 hP 2 0 rfl rfl (inb_in (i := (1 : Int32)) (n := 70) rfl) dX6_roads_91 ?_
            refine lv_iconst (v := (1 : Int32)) hx hb dX6_roads_92 k_iconst_1 ?_
            refine lv_iadd hx hb dX6_roads_93 ?_
            refine va_iast (f := (o77.2 2)) hx hb hEN.1 hP hD hS 2 0 rfl rfl (inb_in (i := (1 : Int32)) (n := 70) rfl) dX6_roads_94 (fun H locs hP hD hS => ?_)
            have hP : va_P G vwCl [oX6 aM o77.2 vT, ai cI (aM 1) 70 (o77.2 1), ai cI (aM 2) 70 (upd (o77.2 2) (Int32.toNatClampNeg (1 : Int32)) (((o77.2 2) (Int32.toNatClampNeg (1 : Int32))) + (1 : Int32))), ai cI (aM 3) 40 (o77.2 3), ai cI (aM 4) 80 (o77.2 4), ai cZ (aM 5) 2 (o77.2 5), ai cI (aM 6) 200 (o77.2 6), ai cI (aM 8) 12 (o77.2 8), ai cI (aM 10) 12 (o77.2 10), ai cI (aM 18) 427 (o77.2 18), ai cI (aM 21) 100 (o77.2 21), ai cI (aM 23) 100 (o77.2 23), ai cI (aM 24) 100 (o77.2 24), ai cI (aM 26) 7 (o77.2 26), ai cI (aM 27) 5 (o77.2 27), ai cI (aM 28) 64 (o77.2 28)] H := hP
            have hD : va_D A [oX6 aM o77.2 vT, ai cI (aM 1) 70 (o77.2 1), ai cI (aM 2) 70 (upd (o77.2 2) (Int32.toNatClampNeg (1 : Int32)) (((o77.2 2) (Int32.toNatClampNeg (1 : Int32))) + (1 : Int32))), ai cI (aM 3) 40 (o77.2 3), ai cI (aM 4) 80 (o77.2 4), ai cZ (aM 5) 2 (o77.2 5), ai cI (aM 6) 200 (o77.2 6), ai cI (aM 8) 12 (o77.2 8), ai cI (aM 10) 12 (o77.2 10), ai cI (aM 18) 427 (o77.2 18), ai cI (aM 21) 100 (o77.2 21), ai cI (aM 23) 100 (o77.2 23), ai cI (aM 24) 100 (o77.2 24), ai cI (aM 26) 7 (o77.2 26), ai cI (aM 27) 5 (o77.2 27), ai cI (aM 28) 64 (o77.2 28)] := hD
            refine lv_aload_n hx hb dX6_roads_95 rfl (lv_at hl 2 rfl) ?_
            obtain ⟨o96, ho96, h⟩ := bnd_some h
            refine call_VJ (wr := []) (As := []) (rest := []) ⟨hx, hb, hml, hown, hts⟩ (c_X6_ends l G cI cZ aM vT (st o77.2 2 (Int32.toNatClampNeg (1 : Int32)) (((o77.2 2) (Int32.toNatClampNeg (1 : Int32))) + (1 : Int32))) o96 ho96) (cwV 0 hts gX6_roads_X6_ends rfl rfl rfl hdV_X6_ends ⟨Nat.le_of_ble_eq_true rfl, Nat.le_of_ble_eq_true rfl⟩) hEN hA hP hD hS [0, 1, 2, 3, 4, 5, 6, 7, 8, 9, 10, 11, 12, 13, 14, 15] [] rfl (by decide) rfl (by decide) (by decide) 0 rfl rfl rfl hl.1 rfl (Nat.le_of_ble_eq_true rfl) dX6_roads_96 ⟨Nat.le_of_ble_eq_true rfl, Nat.le_of_ble_eq_true rfl⟩ (fun H locs hP hD hS => ?_)
            have hP : va_P G vwCl [oX6 aM o96.2 vT, ai cI (aM 1) 70 (o96.2 1), ai cI (aM 2) 70 (o96.2 2), ai cI (aM 3) 40 (o96.2 3), ai cI (aM 4) 80 (o96.2 4), ai cZ (aM 5) 2 (o96.2 5), ai cI (aM 6) 200 (o96.2 6), ai cI (aM 8) 12 (o96.2 8), ai cI (aM 10) 12 (o96.2 10), ai cI (aM 18) 427 (o96.2 18), ai cI (aM 21) 100 (o96.2 21), ai cI (aM 23) 100 (o96.2 23), ai cI (aM 24) 100 (o96.2 24), ai cI (aM 26) 7 (o96.2 26), ai cI (aM 27) 5 (o96.2 27), ai cI (aM 28) 64 (o96.2 28)] H := hP
            have hD : va_D A [oX6 aM o96.2 vT, ai cI (aM 1) 70 (o96.2 1), ai cI (aM 2) 70 (o96.2 2), ai cI (aM 3) 40 (o96.2 3), ai cI (aM 4) 80 (o96.2 4), ai cZ (aM 5) 2 (o96.2 5), ai cI (aM 6) 200 (o96.2 6), ai cI (aM 8) 12 (o96.2 8), ai cI (aM 10) 12 (o96.2 10), ai cI (aM 18) 427 (o96.2 18), ai cI (aM 21) 100 (o96.2 21), ai cI (aM 23) 100 (o96.2 23), ai cI (aM 24) 100 (o96.2 24), ai cI (aM 26) 7 (o96.2 26), ai cI (aM 27) 5 (o96.2 27), ai cI (aM 28) 64 (o96.2 28)] := hD
            obtain ⟨hg99, h⟩ := grd_some h
            have hres := Option.some.inj h
            subst hres
            exact hRet 99 (bz_n hg99) _ _ _ hP hD hS dX6_roads_99
          · have h := (if_pos c80).symm.trans h
            refine lv_iconst (v := (0 : Int32)) hx hb dX6_roads_83 k_iconst_0 ?_
            have hres := Option.some.inj h
            subst hres
            exact hRet 84 nz0 _ _ _ hP hD hS dX6_roads_84
abbrev rm_X6_hosts : Room := { frames := 5, cells := 0, slots := 0, locals := 113 }
theorem fi_X6_hosts_X6 : ∀ w ∈ wsX60, w ∈ wsX6_hosts := fun _ h => List.mem_cons_of_mem _ (List.mem_append_right _ h)
theorem hdV_X6_hosts : yX6_hosts.cls = RX6 ∧ yX6_hosts.cls ≠ "java/lang/invoke/MethodHandle" ∧ yX6_hosts.cls ≠ "java/lang/invoke/VarHandle" ∧ (parseMethodDescriptor yX6_hosts.desc).map (fun d => d.parameters.length) = some 0 := by decide +kernel
set_option maxRecDepth 100000 in
set_option maxHeartbeats 4000000 in
theorem c_X6_hosts (l : Launch) (G : va_G) (cI cZ : ClassId) (aM : Nat → Nat) (vT : Int64) (vM : Ob)  (res : Int32 × Ob) (h : m_X6_hosts vM  = some res) : Ct l yX6_hosts wsX6_hosts rm_X6_hosts G cI cZ [.ref (aM 0)] [oX6 aM vM vT, ai cI (aM 1) 70 (vM 1), ai cI (aM 2) 70 (vM 2), ai cI (aM 3) 40 (vM 3), ai cI (aM 4) 80 (vM 4), ai cZ (aM 5) 2 (vM 5), ai cI (aM 6) 200 (vM 6), ai cI (aM 8) 12 (vM 8), ai cI (aM 10) 12 (vM 10), ai cI (aM 18) 427 (vM 18), ai cI (aM 21) 100 (vM 21), ai cI (aM 23) 100 (vM 23), ai cI (aM 24) 100 (vM 24), ai cI (aM 26) 7 (vM 26), ai cI (aM 27) 5 (vM 27), ai cI (aM 28) 64 (vM 28)] (some (.int res.1)) [oX6 aM res.2 vT, ai cI (aM 1) 70 (res.2 1), ai cI (aM 2) 70 (res.2 2), ai cI (aM 3) 40 (res.2 3), ai cI (aM 4) 80 (res.2 4), ai cZ (aM 5) 2 (res.2 5), ai cI (aM 6) 200 (res.2 6), ai cI (aM 8) 12 (res.2 8), ai cI (aM 10) 12 (res.2 10), ai cI (aM 18) 427 (res.2 18), ai cI (aM 21) 100 (res.2 21), ai cI (aM 23) 100 (res.2 23), ai cI (aM 24) 100 (res.2 24), ai cI (aM 26) 7 (res.2 26), ai cI (aM 27) 5 (res.2 27), ai cI (aM 28) 64 (res.2 28)] := by
  refine Ct.of_z (maxL := 2) (by decide) rfl (Nat.le_of_ble_eq_true rfl) ?_
  intro p e s m below meth c args hx hb hml hown hts A hA hEN hP hD hS Q hRet ls hl
  have hown : s.vm.findClass RX6 = some m.cls := hown
  have hl : lv_has ls 2 [(0, .ref (aM 0))] := hl
  unfold m_X6_hosts at h
  refine lv_aload_n hx hb dX6_hosts_0 rfl (lv_at hl 0 rfl) ?_
  refine va_get (D := G) (ci := 6) (v := .ref (aM 2)) (C := RX6) (T := TX6) (N := 29) hx hb hts fi_X6_hosts_X6 hown hEN.1 hP 0 rfl rfl 1 (by decide) (hts (.fieldLink RX6 13 "HourWellModel" "read" "[I") (List.mem_of_getElem? (i := 1) rfl)) (fun _ h9 => h9) rfl dX6_hosts_1 ?_
  refine lv_iconst (v := (2 : Int32)) hx hb dX6_hosts_4 k_iconst_2 ?_
  refine va_iald (f := (vM 2)) hx hb hEN.1 hP 2 0 rfl rfl (inb_in (i := (2 : Int32)) (n := 70) rfl) dX6_hosts_5 ?_
  refine lv_istore_n (lv' := [(1, .int ((vM 2) (Int32.toNatClampNeg (2 : Int32)))), (0, .ref (aM 0))]) hx hb dX6_hosts_6 rfl hl (by decide) rfl (fun ls hl => ?_)
  refine lv_iload_n hx hb dX6_hosts_7 rfl (lv_at hl 0 rfl) ?_
  refine lv_bipush (v := (6 : Int32)) hx hb dX6_hosts_8 k_bipush_6 ?_
  refine lv_icmp_eq (tgt := 77) hx hb dX6_hosts_10 (by decide) (fun c10 => ?_) (fun c10 => ?_)
  · have h := (if_pos c10).symm.trans h
    refine lv_iconst (v := (0 : Int32)) hx hb dX6_hosts_77 k_iconst_0 ?_
    have hres := Option.some.inj h
    subst hres
    exact hRet 78 nz0 _ _ _ hP hD hS dX6_hosts_78
  · have h := (if_neg c10).symm.trans h
    refine lv_aload_n hx hb dX6_hosts_13 rfl (lv_at hl 1 rfl) ?_
    refine lv_iconst (v := (0 : Int32)) hx hb dX6_hosts_14 k_iconst_0 ?_
    refine lv_aload_n hx hb dX6_hosts_15 rfl (lv_at hl 1 rfl) ?_
    refine va_get (D := G) (ci := 6) (v := .ref (aM 2)) (C := RX6) (T := TX6) (N := 29) hx hb hts fi_X6_hosts_X6 hown hEN.1 hP 0 rfl rfl 1 (by decide) (hts (.fieldLink RX6 13 "HourWellModel" "read" "[I") (List.mem_of_getElem? (i := 1) rfl)) (fun _ h9 => h9) rfl dX6_hosts_16 ?_
    refine lv_iconst (v := (0 : Int32)) hx hb dX6_hosts_19 k_iconst_0 ?_
    refine va_iald (f := (vM 2)) hx hb hEN.1 hP 2 0 rfl rfl (inb_in (i := (0 : Int32)) (n := 70) rfl) dX6_hosts_20 ?_
    refine lv_iconst (v := (1 : Int32)) hx hb dX6_hosts_21 k_iconst_1 ?_
    refine lv_isub hx hb dX6_hosts_22 ?_
    refine lv_bipush (v := (52 : Int32)) hx hb dX6_hosts_23 k_bipush_52 ?_
    refine lv_iload_n hx hb dX6_hosts_25 rfl (lv_at hl 0 rfl) ?_
    refine lv_iadd hx hb dX6_hosts_26 ?_
    obtain ⟨o27, ho27, h⟩ := bnd_some h
    refine call_VJ (wr := []) (As := [.int (0 : Int32), .int (((vM 2) (Int32.toNatClampNeg (0 : Int32))) - (1 : Int32)), .int ((52 : Int32) + ((vM 2) (Int32.toNatClampNeg (2 : Int32))))]) (rest := []) ⟨hx, hb, hml, hown, hts⟩ (c_X6_takes l G cI cZ aM vT vM (0 : Int32) (((vM 2) (Int32.toNatClampNeg (0 : Int32))) - (1 : Int32)) ((52 : Int32) + ((vM 2) (Int32.toNatClampNeg (2 : Int32)))) o27 ho27) (cwV 3 hts gX6_hosts_X6_takes rfl rfl rfl hdV_X6_takes ⟨Nat.le_of_ble_eq_true rfl, Nat.le_of_ble_eq_true rfl⟩) hEN hA hP hD hS [0, 1, 2, 3, 4, 5, 6, 7, 8, 9, 10, 11, 12, 13, 14, 15] [] rfl (by decide) rfl (by decide) (by decide) 0 rfl rfl rfl hl.1 rfl (Nat.le_of_ble_eq_true rfl) dX6_hosts_27 ⟨Nat.le_of_ble_eq_true rfl, Nat.le_of_ble_eq_true rfl⟩ (fun H locs hP hD hS => ?_)
    have hP : va_P G vwCl [oX6 aM o27.2 vT, ai cI (aM 1) 70 (o27.2 1), ai cI (aM 2) 70 (o27.2 2), ai cI (aM 3) 40 (o27.2 3), ai cI (aM 4) 80 (o27.2 4), ai cZ (aM 5) 2 (o27.2 5), ai cI (aM 6) 200 (o27.2 6), ai cI (aM 8) 12 (o27.2 8), ai cI (aM 10) 12 (o27.2 10), ai cI (aM 18) 427 (o27.2 18), ai cI (aM 21) 100 (o27.2 21), ai cI (aM 23) 100 (o27.2 23), ai cI (aM 24) 100 (o27.2 24), ai cI (aM 26) 7 (o27.2 26), ai cI (aM 27) 5 (o27.2 27), ai cI (aM 28) 64 (o27.2 28)] H := hP
    have hD : va_D A [oX6 aM o27.2 vT, ai cI (aM 1) 70 (o27.2 1), ai cI (aM 2) 70 (o27.2 2), ai cI (aM 3) 40 (o27.2 3), ai cI (aM 4) 80 (o27.2 4), ai cZ (aM 5) 2 (o27.2 5), ai cI (aM 6) 200 (o27.2 6), ai cI (aM 8) 12 (o27.2 8), ai cI (aM 10) 12 (o27.2 10), ai cI (aM 18) 427 (o27.2 18), ai cI (aM 21) 100 (o27.2 21), ai cI (aM 23) 100 (o27.2 23), ai cI (aM 24) 100 (o27.2 24), ai cI (aM 26) 7 (o27.2 26), ai cI (aM 27) 5 (o27.2 27), ai cI (aM 28) 64 (o27.2 28)] := hD
    refine lv_if_eq (tgt := 77) hx hb dX6_hosts_30 (by decide) (fun c30 => ?_) (fun c30 => ?_)
    · have h := (if_pos c30).symm.trans h
      refine lv_iconst (v := (0 : Int32)) hx hb dX6_hosts_77 k_iconst_0 ?_
      have hres := Option.some.inj h
      subst hres
      exact hRet 78 nz0 _ _ _ hP hD hS dX6_hosts_78
    · have h := (if_neg c30).symm.trans h
      refine lv_aload_n hx hb dX6_hosts_33 rfl (lv_at hl 1 rfl) ?_
      refine lv_iconst (v := (0 : Int32)) hx hb dX6_hosts_34 k_iconst_0 ?_
      refine lv_iconst (v := (4 : Int32)) hx hb dX6_hosts_35 k_iconst_4 ?_
      refine lv_bipush (v := (58 : Int32)) hx hb dX6_hosts_36 k_bipush_58 ?_
      refine lv_iload_n hx hb dX6_hosts_38 rfl (lv_at hl 0 rfl) ?_
      refine lv_iadd hx hb dX6_hosts_39 ?_
      obtain ⟨o40, ho40, h⟩ := bnd_some h
      refine call_VJ (wr := []) (As := [.int (0 : Int32), .int (4 : Int32), .int ((58 : Int32) + ((vM 2) (Int32.toNatClampNeg (2 : Int32))))]) (rest := []) ⟨hx, hb, hml, hown, hts⟩ (c_X6_takes l G cI cZ aM vT o27.2 (0 : Int32) (4 : Int32) ((58 : Int32) + ((vM 2) (Int32.toNatClampNeg (2 : Int32)))) o40 ho40) (cwV 3 hts gX6_hosts_X6_takes rfl rfl rfl hdV_X6_takes ⟨Nat.le_of_ble_eq_true rfl, Nat.le_of_ble_eq_true rfl⟩) hEN hA hP hD hS [0, 1, 2, 3, 4, 5, 6, 7, 8, 9, 10, 11, 12, 13, 14, 15] [] rfl (by decide) rfl (by decide) (by decide) 0 rfl rfl rfl hl.1 rfl (Nat.le_of_ble_eq_true rfl) dX6_hosts_40 ⟨Nat.le_of_ble_eq_true rfl, Nat.le_of_ble_eq_true rfl⟩ (fun H locs hP hD hS => ?_)
      have hP : va_P G vwCl [oX6 aM o40.2 vT, ai cI (aM 1) 70 (o40.2 1), ai cI (aM 2) 70 (o40.2 2), ai cI (aM 3) 40 (o40.2 3), ai cI (aM 4) 80 (o40.2 4), ai cZ (aM 5) 2 (o40.2 5), ai cI (aM 6) 200 (o40.2 6), ai cI (aM 8) 12 (o40.2 8), ai cI (aM 10) 12 (o40.2 10), ai cI (aM 18) 427 (o40.2 18), ai cI (aM 21) 100 (o40.2 21), ai cI (aM 23) 100 (o40.2 23), ai cI (aM 24) 100 (o40.2 24), ai cI (aM 26) 7 (o40.2 26), ai cI (aM 27) 5 (o40.2 27), ai cI (aM 28) 64 (o40.2 28)] H := hP
      have hD : va_D A [oX6 aM o40.2 vT, ai cI (aM 1) 70 (o40.2 1), ai cI (aM 2) 70 (o40.2 2), ai cI (aM 3) 40 (o40.2 3), ai cI (aM 4) 80 (o40.2 4), ai cZ (aM 5) 2 (o40.2 5), ai cI (aM 6) 200 (o40.2 6), ai cI (aM 8) 12 (o40.2 8), ai cI (aM 10) 12 (o40.2 10), ai cI (aM 18) 427 (o40.2 18), ai cI (aM 21) 100 (o40.2 21), ai cI (aM 23) 100 (o40.2 23), ai cI (aM 24) 100 (o40.2 24), ai cI (aM 26) 7 (o40.2 26), ai cI (aM 27) 5 (o40.2 27), ai cI (aM 28) 64 (o40.2 28)] := hD
      refine lv_if_eq (tgt := 77) hx hb dX6_hosts_43 (by decide) (fun c43 => ?_) (fun c43 => ?_)
      · have h := (if_pos c43).symm.trans h
        refine lv_iconst (v := (0 : Int32)) hx hb dX6_hosts_77 k_iconst_0 ?_
        have hres := Option.some.inj h
        subst hres
        exact hRet 78 nz0 _ _ _ hP hD hS dX6_hosts_78
      · have h := (if_neg c43).symm.trans h
        refine lv_aload_n hx hb dX6_hosts_46 rfl (lv_at hl 1 rfl) ?_
        refine lv_iconst (v := (0 : Int32)) hx hb dX6_hosts_47 k_iconst_0 ?_
        refine lv_bipush (v := (9 : Int32)) hx hb dX6_hosts_48 k_bipush_9 ?_
        refine lv_bipush (v := (64 : Int32)) hx hb dX6_hosts_50 k_bipush_64 ?_
        refine lv_iload_n hx hb dX6_hosts_52 rfl (lv_at hl 0 rfl) ?_
        refine lv_iadd hx hb dX6_hosts_53 ?_
        obtain ⟨o54, ho54, h⟩ := bnd_some h
        refine call_VJ (wr := []) (As := [.int (0 : Int32), .int (9 : Int32), .int ((64 : Int32) + ((vM 2) (Int32.toNatClampNeg (2 : Int32))))]) (rest := []) ⟨hx, hb, hml, hown, hts⟩ (c_X6_takes l G cI cZ aM vT o40.2 (0 : Int32) (9 : Int32) ((64 : Int32) + ((vM 2) (Int32.toNatClampNeg (2 : Int32)))) o54 ho54) (cwV 3 hts gX6_hosts_X6_takes rfl rfl rfl hdV_X6_takes ⟨Nat.le_of_ble_eq_true rfl, Nat.le_of_ble_eq_true rfl⟩) hEN hA hP hD hS [0, 1, 2, 3, 4, 5, 6, 7, 8, 9, 10, 11, 12, 13, 14, 15] [] rfl (by decide) rfl (by decide) (by decide) 0 rfl rfl rfl hl.1 rfl (Nat.le_of_ble_eq_true rfl) dX6_hosts_54 ⟨Nat.le_of_ble_eq_true rfl, Nat.le_of_ble_eq_true rfl⟩ (fun H locs hP hD hS => ?_)
        have hP : va_P G vwCl [oX6 aM o54.2 vT, ai cI (aM 1) 70 (o54.2 1), ai cI (aM 2) 70 (o54.2 2), ai cI (aM 3) 40 (o54.2 3), ai cI (aM 4) 80 (o54.2 4), ai cZ (aM 5) 2 (o54.2 5), ai cI (aM 6) 200 (o54.2 6), ai cI (aM 8) 12 (o54.2 8), ai cI (aM 10) 12 (o54.2 10), ai cI (aM 18) 427 (o54.2 18), ai cI (aM 21) 100 (o54.2 21), ai cI (aM 23) 100 (o54.2 23), ai cI (aM 24) 100 (o54.2 24), ai cI (aM 26) 7 (o54.2 26), ai cI (aM 27) 5 (o54.2 27), ai cI (aM 28) 64 (o54.2 28)] H := hP
        have hD : va_D A [oX6 aM o54.2 vT, ai cI (aM 1) 70 (o54.2 1), ai cI (aM 2) 70 (o54.2 2), ai cI (aM 3) 40 (o54.2 3), ai cI (aM 4) 80 (o54.2 4), ai cZ (aM 5) 2 (o54.2 5), ai cI (aM 6) 200 (o54.2 6), ai cI (aM 8) 12 (o54.2 8), ai cI (aM 10) 12 (o54.2 10), ai cI (aM 18) 427 (o54.2 18), ai cI (aM 21) 100 (o54.2 21), ai cI (aM 23) 100 (o54.2 23), ai cI (aM 24) 100 (o54.2 24), ai cI (aM 26) 7 (o54.2 26), ai cI (aM 27) 5 (o54.2 27), ai cI (aM 28) 64 (o54.2 28)] := hD
        refine lv_if_eq (tgt := 77) hx hb dX6_hosts_57 (by decide) (fun c57 => ?_) (fun c57 => ?_)
        · have h := (if_pos c57).symm.trans h
          refine lv_iconst (v := (0 : Int32)) hx hb dX6_hosts_77 k_iconst_0 ?_
          have hres := Option.some.inj h
          subst hres
          exact hRet 78 nz0 _ _ _ hP hD hS dX6_hosts_78
        · have h := (if_neg c57).symm.trans h
          refine lv_aload_n hx hb dX6_hosts_60 rfl (lv_at hl 1 rfl) ?_
          refine va_get (D := G) (ci := 6) (v := .int (o54.2 0 15)) (C := RX6) (T := TX6) (N := 29) hx hb hts fi_X6_hosts_X6 hown hEN.1 hP 0 rfl rfl 15 (by decide) (hts (.fieldLink RX6 98 "HourWellModel" "value" "I") (List.mem_of_getElem? (i := 2) rfl)) (fun _ h9 => h9) rfl dX6_hosts_61 ?_
          refine lv_i2l (v := (Int32.toInt64 (o54.2 0 15))) hx hb dX6_hosts_64 rfl ?_
          refine lv_ldc2 (v := (5 : Int64)) hx hb hown (hts (.constantLong RX6 116 (5)) (List.mem_of_getElem? (i := 3) rfl)) dX6_hosts_65 ?_
          refine lv_ldc2 (v := (8 : Int64)) hx hb hown (hts (.constantLong RX6 118 (8)) (List.mem_of_getElem? (i := 4) rfl)) dX6_hosts_68 ?_
          obtain ⟨o71, ho71, h⟩ := bnd_some h
          refine call_S0 (As := [.long (Int32.toInt64 (o54.2 0 15)), .long (5 : Int64), .long (8 : Int64)]) (rest := []) ⟨hx, hb, hml, hown, hts⟩ (c_X6_in l G cI cZ  (Int32.toInt64 (o54.2 0 15)) (5 : Int64) (8 : Int64) o71 ho71) (va_cwS 3 hts gX6_hosts_X6_in rfl rfl rfl hdS_X6_in ⟨Nat.le_of_ble_eq_true rfl, Nat.le_of_ble_eq_true rfl⟩) hEN hA hP hD hS [] rfl (by decide) rfl hl.1 rfl (Nat.le_of_ble_eq_true rfl) dX6_hosts_71 ⟨Nat.le_of_ble_eq_true rfl, Nat.le_of_ble_eq_true rfl⟩ (fun H locs hP hS => ?_)
          refine lv_if_eq (tgt := 79) hx hb dX6_hosts_74 (by decide) (fun c74 => ?_) (fun c74 => ?_)
          · have h := (if_pos c74).symm.trans h
            refine lv_aload_n hx hb dX6_hosts_79 rfl (lv_at hl 1 rfl) ?_
            refine va_get (D := G) (ci := 6) (v := .ref (aM 2)) (C := RX6) (T := TX6) (N := 29) hx hb hts fi_X6_hosts_X6 hown hEN.1 hP 0 rfl rfl 1 (by decide) (hts (.fieldLink RX6 13 "HourWellModel" "read" "[I") (List.mem_of_getElem? (i := 1) rfl)) (fun _ h9 => h9) rfl dX6_hosts_80 ?_
            refine lv_iconst (v := (2 : Int32)) hx hb dX6_hosts_83 k_iconst_2 ?_
            refine lv_dup2_11 hx hb dX6_hosts_84 rfl rfl ?_
            refine va_iald (f := (o54.2 2)) hx hb hEN.1 hP 2 0 rfl rfl (inb_in (i := (2 : Int32)) (n := 70) rfl) dX6_hosts_85 ?_
            refine lv_iconst (v := (1 : Int32)) hx hb dX6_hosts_86 k_iconst_1 ?_
            refine lv_iadd hx hb dX6_hosts_87 ?_
            refine va_iast (f := (o54.2 2)) hx hb hEN.1 hP hD hS 2 0 rfl rfl (inb_in (i := (2 : Int32)) (n := 70) rfl) dX6_hosts_88 (fun H locs hP hD hS => ?_)
            have hP : va_P G vwCl [oX6 aM o54.2 vT, ai cI (aM 1) 70 (o54.2 1), ai cI (aM 2) 70 (upd (o54.2 2) (Int32.toNatClampNeg (2 : Int32)) (((o54.2 2) (Int32.toNatClampNeg (2 : Int32))) + (1 : Int32))), ai cI (aM 3) 40 (o54.2 3), ai cI (aM 4) 80 (o54.2 4), ai cZ (aM 5) 2 (o54.2 5), ai cI (aM 6) 200 (o54.2 6), ai cI (aM 8) 12 (o54.2 8), ai cI (aM 10) 12 (o54.2 10), ai cI (aM 18) 427 (o54.2 18), ai cI (aM 21) 100 (o54.2 21), ai cI (aM 23) 100 (o54.2 23), ai cI (aM 24) 100 (o54.2 24), ai cI (aM 26) 7 (o54.2 26), ai cI (aM 27) 5 (o54.2 27), ai cI (aM 28) 64 (o54.2 28)] H := hP
            have hD : va_D A [oX6 aM o54.2 vT, ai cI (aM 1) 70 (o54.2 1), ai cI (aM 2) 70 (upd (o54.2 2) (Int32.toNatClampNeg (2 : Int32)) (((o54.2 2) (Int32.toNatClampNeg (2 : Int32))) + (1 : Int32))), ai cI (aM 3) 40 (o54.2 3), ai cI (aM 4) 80 (o54.2 4), ai cZ (aM 5) 2 (o54.2 5), ai cI (aM 6) 200 (o54.2 6), ai cI (aM 8) 12 (o54.2 8), ai cI (aM 10) 12 (o54.2 10), ai cI (aM 18) 427 (o54.2 18), ai cI (aM 21) 100 (o54.2 21), ai cI (aM 23) 100 (o54.2 23), ai cI (aM 24) 100 (o54.2 24), ai cI (aM 26) 7 (o54.2 26), ai cI (aM 27) 5 (o54.2 27), ai cI (aM 28) 64 (o54.2 28)] := hD
            refine lv_aload_n hx hb dX6_hosts_89 rfl (lv_at hl 1 rfl) ?_
            obtain ⟨o90, ho90, h⟩ := bnd_some h
            refine call_VJ (wr := []) (As := []) (rest := []) ⟨hx, hb, hml, hown, hts⟩ (c_X6_ends l G cI cZ aM vT (st o54.2 2 (Int32.toNatClampNeg (2 : Int32)) (((o54.2 2) (Int32.toNatClampNeg (2 : Int32))) + (1 : Int32))) o90 ho90) (cwV 0 hts gX6_hosts_X6_ends rfl rfl rfl hdV_X6_ends ⟨Nat.le_of_ble_eq_true rfl, Nat.le_of_ble_eq_true rfl⟩) hEN hA hP hD hS [0, 1, 2, 3, 4, 5, 6, 7, 8, 9, 10, 11, 12, 13, 14, 15] [] rfl (by decide) rfl (by decide) (by decide) 0 rfl rfl rfl hl.1 rfl (Nat.le_of_ble_eq_true rfl) dX6_hosts_90 ⟨Nat.le_of_ble_eq_true rfl, Nat.le_of_ble_eq_true rfl⟩ (fun H locs hP hD hS => ?_)
            have hP : va_P G vwCl [oX6 aM o90.2 vT, ai cI (aM 1) 70 (o90.2 1), ai cI (aM 2) 70 (o90.2 2), ai cI (aM 3) 40 (o90.2 3), ai cI (aM 4) 80 (o90.2 4), ai cZ (aM 5) 2 (o90.2 5), ai cI (aM 6) 200 (o90.2 6), ai cI (aM 8) 12 (o90.2 8), ai cI (aM 10) 12 (o90.2 10), ai cI (aM 18) 427 (o90.2 18), ai cI (aM 21) 100 (o90.2 21), ai cI (aM 23) 100 (o90.2 23), ai cI (aM 24) 100 (o90.2 24), ai cI (aM 26) 7 (o90.2 26), ai cI (aM 27) 5 (o90.2 27), ai cI (aM 28) 64 (o90.2 28)] H := hP
            have hD : va_D A [oX6 aM o90.2 vT, ai cI (aM 1) 70 (o90.2 1), ai cI (aM 2) 70 (o90.2 2), ai cI (aM 3) 40 (o90.2 3), ai cI (aM 4) 80 (o90.2 4), ai cZ (aM 5) 2 (o90.2 5), ai cI (aM 6) 200 (o90.2 6), ai cI (aM 8) 12 (o90.2 8), ai cI (aM 10) 12 (o90.2 10), ai cI (aM 18) 427 (o90.2 18), ai cI (aM 21) 100 (o90.2 21), ai cI (aM 23) 100 (o90.2 23), ai cI (aM 24) 100 (o90.2 24), ai cI (aM 26) 7 (o90.2 26), ai cI (aM 27) 5 (o90.2 27), ai cI (aM 28) 64 (o90.2 28)] := hD
            obtain ⟨hg93, h⟩ := grd_some h
            have hres := Option.some.inj h
            subst hres
            exact hRet 93 (bz_n hg93) _ _ _ hP hD hS dX6_hosts_93
          · have h := (if_neg c74).symm.trans h
            refine lv_iconst (v := (0 : Int32)) hx hb dX6_hosts_77 k_iconst_0 ?_
            have hres := Option.some.inj h
            subst hres
            exact hRet 78 nz0 _ _ _ hP hD hS dX6_hosts_78
abbrev rm_X6_lion : Room := { frames := 5, cells := 0, slots := 0, locals := 113 }
theorem fi_X6_lion_X6 : ∀ w ∈ wsX60, w ∈ wsX6_lion := fun _ h => List.mem_cons_of_mem _ (List.mem_append_right _ h)
theorem hdV_X6_lion : yX6_lion.cls = RX6 ∧ yX6_lion.cls ≠ "java/lang/invoke/MethodHandle" ∧ yX6_lion.cls ≠ "java/lang/invoke/VarHandle" ∧ (parseMethodDescriptor yX6_lion.desc).map (fun d => d.parameters.length) = some 0 := by decide +kernel
set_option maxRecDepth 100000 in
set_option maxHeartbeats 4000000 in
theorem c_X6_lion (l : Launch) (G : va_G) (cI cZ : ClassId) (aM : Nat → Nat) (vT : Int64) (vM : Ob)  (res : Int32 × Ob) (h : m_X6_lion vM  = some res) : Ct l yX6_lion wsX6_lion rm_X6_lion G cI cZ [.ref (aM 0)] [oX6 aM vM vT, ai cI (aM 1) 70 (vM 1), ai cI (aM 2) 70 (vM 2), ai cI (aM 3) 40 (vM 3), ai cI (aM 4) 80 (vM 4), ai cZ (aM 5) 2 (vM 5), ai cI (aM 6) 200 (vM 6), ai cI (aM 8) 12 (vM 8), ai cI (aM 10) 12 (vM 10), ai cI (aM 18) 427 (vM 18), ai cI (aM 21) 100 (vM 21), ai cI (aM 23) 100 (vM 23), ai cI (aM 24) 100 (vM 24), ai cI (aM 26) 7 (vM 26), ai cI (aM 27) 5 (vM 27), ai cI (aM 28) 64 (vM 28)] (some (.int res.1)) [oX6 aM res.2 vT, ai cI (aM 1) 70 (res.2 1), ai cI (aM 2) 70 (res.2 2), ai cI (aM 3) 40 (res.2 3), ai cI (aM 4) 80 (res.2 4), ai cZ (aM 5) 2 (res.2 5), ai cI (aM 6) 200 (res.2 6), ai cI (aM 8) 12 (res.2 8), ai cI (aM 10) 12 (res.2 10), ai cI (aM 18) 427 (res.2 18), ai cI (aM 21) 100 (res.2 21), ai cI (aM 23) 100 (res.2 23), ai cI (aM 24) 100 (res.2 24), ai cI (aM 26) 7 (res.2 26), ai cI (aM 27) 5 (res.2 27), ai cI (aM 28) 64 (res.2 28)] := by
  refine Ct.of_z (maxL := 1) (by decide) rfl (Nat.le_of_ble_eq_true rfl) ?_
  intro p e s m below meth c args hx hb hml hown hts A hA hEN hP hD hS Q hRet ls hl
  have hown : s.vm.findClass RX6 = some m.cls := hown
  have hl : lv_has ls 1 [(0, .ref (aM 0))] := hl
  unfold m_X6_lion at h
  refine lv_aload_n hx hb dX6_lion_0 rfl (lv_at hl 0 rfl) ?_
  refine lv_iconst (v := (1 : Int32)) hx hb dX6_lion_1 k_iconst_1 ?_
  refine lv_aload_n hx hb dX6_lion_2 rfl (lv_at hl 0 rfl) ?_
  refine va_get (D := G) (ci := 6) (v := .ref (aM 2)) (C := RX6) (T := TX6) (N := 29) hx hb hts fi_X6_lion_X6 hown hEN.1 hP 0 rfl rfl 1 (by decide) (hts (.fieldLink RX6 13 "HourWellModel" "read" "[I") (List.mem_of_getElem? (i := 1) rfl)) (fun _ h9 => h9) rfl dX6_lion_3 ?_
  refine lv_iconst (v := (0 : Int32)) hx hb dX6_lion_6 k_iconst_0 ?_
  refine va_iald (f := (vM 2)) hx hb hEN.1 hP 2 0 rfl rfl (inb_in (i := (0 : Int32)) (n := 70) rfl) dX6_lion_7 ?_
  refine lv_iconst (v := (1 : Int32)) hx hb dX6_lion_8 k_iconst_1 ?_
  refine lv_isub hx hb dX6_lion_9 ?_
  obtain ⟨o10, ho10, h⟩ := bnd_some h
  refine call_VJ (wr := []) (As := [.int (1 : Int32), .int (((vM 2) (Int32.toNatClampNeg (0 : Int32))) - (1 : Int32))]) (rest := []) ⟨hx, hb, hml, hown, hts⟩ (c_X6_number l G cI cZ aM vT vM (1 : Int32) (((vM 2) (Int32.toNatClampNeg (0 : Int32))) - (1 : Int32)) o10 ho10) (cwV 2 hts gX6_lion_X6_number rfl rfl rfl hdV_X6_number ⟨Nat.le_of_ble_eq_true rfl, Nat.le_of_ble_eq_true rfl⟩) hEN hA hP hD hS [0, 1, 2, 3, 4, 5, 6, 7, 8, 9, 10, 11, 12, 13, 14, 15] [] rfl (by decide) rfl (by decide) (by decide) 0 rfl rfl rfl hl.1 rfl (Nat.le_of_ble_eq_true rfl) dX6_lion_10 ⟨Nat.le_of_ble_eq_true rfl, Nat.le_of_ble_eq_true rfl⟩ (fun H locs hP hD hS => ?_)
  have hP : va_P G vwCl [oX6 aM o10.2 vT, ai cI (aM 1) 70 (o10.2 1), ai cI (aM 2) 70 (o10.2 2), ai cI (aM 3) 40 (o10.2 3), ai cI (aM 4) 80 (o10.2 4), ai cZ (aM 5) 2 (o10.2 5), ai cI (aM 6) 200 (o10.2 6), ai cI (aM 8) 12 (o10.2 8), ai cI (aM 10) 12 (o10.2 10), ai cI (aM 18) 427 (o10.2 18), ai cI (aM 21) 100 (o10.2 21), ai cI (aM 23) 100 (o10.2 23), ai cI (aM 24) 100 (o10.2 24), ai cI (aM 26) 7 (o10.2 26), ai cI (aM 27) 5 (o10.2 27), ai cI (aM 28) 64 (o10.2 28)] H := hP
  have hD : va_D A [oX6 aM o10.2 vT, ai cI (aM 1) 70 (o10.2 1), ai cI (aM 2) 70 (o10.2 2), ai cI (aM 3) 40 (o10.2 3), ai cI (aM 4) 80 (o10.2 4), ai cZ (aM 5) 2 (o10.2 5), ai cI (aM 6) 200 (o10.2 6), ai cI (aM 8) 12 (o10.2 8), ai cI (aM 10) 12 (o10.2 10), ai cI (aM 18) 427 (o10.2 18), ai cI (aM 21) 100 (o10.2 21), ai cI (aM 23) 100 (o10.2 23), ai cI (aM 24) 100 (o10.2 24), ai cI (aM 26) 7 (o10.2 26), ai cI (aM 27) 5 (o10.2 27), ai cI (aM 28) 64 (o10.2 28)] := hD
  refine lv_if_eq (tgt := 32) hx hb dX6_lion_13 (by decide) (fun c13 => ?_) (fun c13 => ?_)
  · have h := (if_pos c13).symm.trans h
    refine lv_iconst (v := (0 : Int32)) hx hb dX6_lion_32 k_iconst_0 ?_
    have hres := Option.some.inj h
    subst hres
    exact hRet 33 nz0 _ _ _ hP hD hS dX6_lion_33
  · have h := (if_neg c13).symm.trans h
    refine lv_aload_n hx hb dX6_lion_16 rfl (lv_at hl 0 rfl) ?_
    refine va_get (D := G) (ci := 6) (v := .ref (aM 2)) (C := RX6) (T := TX6) (N := 29) hx hb hts fi_X6_lion_X6 hown hEN.1 hP 0 rfl rfl 1 (by decide) (hts (.fieldLink RX6 13 "HourWellModel" "read" "[I") (List.mem_of_getElem? (i := 1) rfl)) (fun _ h9 => h9) rfl dX6_lion_17 ?_
    refine lv_iconst (v := (4 : Int32)) hx hb dX6_lion_20 k_iconst_4 ?_
    refine lv_aload_n hx hb dX6_lion_21 rfl (lv_at hl 0 rfl) ?_
    refine va_get (D := G) (ci := 6) (v := .int (o10.2 0 15)) (C := RX6) (T := TX6) (N := 29) hx hb hts fi_X6_lion_X6 hown hEN.1 hP 0 rfl rfl 15 (by decide) (hts (.fieldLink RX6 98 "HourWellModel" "value" "I") (List.mem_of_getElem? (i := 2) rfl)) (fun _ h9 => h9) rfl dX6_lion_22 ?_
    refine lv_iadd hx hb dX6_lion_25 ?_
    obtain ⟨hg26, h⟩ := grd_some h
    refine va_iald (f := (o10.2 2)) hx hb hEN.1 hP 2 0 rfl rfl (inb_in hg26) dX6_lion_26 ?_
    refine lv_bipush (v := (9 : Int32)) hx hb dX6_lion_27 k_bipush_9 ?_
    refine lv_icmp_eq (tgt := 34) hx hb dX6_lion_29 (by decide) (fun c29 => ?_) (fun c29 => ?_)
    · have h := (if_pos c29).symm.trans h
      refine lv_aload_n hx hb dX6_lion_34 rfl (lv_at hl 0 rfl) ?_
      refine lv_iconst (v := (0 : Int32)) hx hb dX6_lion_35 k_iconst_0 ?_
      refine lv_iconst (v := (4 : Int32)) hx hb dX6_lion_36 k_iconst_4 ?_
      refine lv_iconst (v := (4 : Int32)) hx hb dX6_lion_37 k_iconst_4 ?_
      refine lv_aload_n hx hb dX6_lion_38 rfl (lv_at hl 0 rfl) ?_
      refine va_get (D := G) (ci := 6) (v := .int (o10.2 0 15)) (C := RX6) (T := TX6) (N := 29) hx hb hts fi_X6_lion_X6 hown hEN.1 hP 0 rfl rfl 15 (by decide) (hts (.fieldLink RX6 98 "HourWellModel" "value" "I") (List.mem_of_getElem? (i := 2) rfl)) (fun _ h9 => h9) rfl dX6_lion_39 ?_
      refine lv_iadd hx hb dX6_lion_42 ?_
      obtain ⟨o43, ho43, h⟩ := bnd_some h
      refine call_VJ (wr := []) (As := [.int (0 : Int32), .int (4 : Int32), .int ((4 : Int32) + (o10.2 0 15))]) (rest := []) ⟨hx, hb, hml, hown, hts⟩ (c_X6_takes l G cI cZ aM vT o10.2 (0 : Int32) (4 : Int32) ((4 : Int32) + (o10.2 0 15)) o43 ho43) (cwV 3 hts gX6_lion_X6_takes rfl rfl rfl hdV_X6_takes ⟨Nat.le_of_ble_eq_true rfl, Nat.le_of_ble_eq_true rfl⟩) hEN hA hP hD hS [0, 1, 2, 3, 4, 5, 6, 7, 8, 9, 10, 11, 12, 13, 14, 15] [] rfl (by decide) rfl (by decide) (by decide) 0 rfl rfl rfl hl.1 rfl (Nat.le_of_ble_eq_true rfl) dX6_lion_43 ⟨Nat.le_of_ble_eq_true rfl, Nat.le_of_ble_eq_true rfl⟩ (fun H locs hP hD hS => ?_)
      have hP : va_P G vwCl [oX6 aM o43.2 vT, ai cI (aM 1) 70 (o43.2 1), ai cI (aM 2) 70 (o43.2 2), ai cI (aM 3) 40 (o43.2 3), ai cI (aM 4) 80 (o43.2 4), ai cZ (aM 5) 2 (o43.2 5), ai cI (aM 6) 200 (o43.2 6), ai cI (aM 8) 12 (o43.2 8), ai cI (aM 10) 12 (o43.2 10), ai cI (aM 18) 427 (o43.2 18), ai cI (aM 21) 100 (o43.2 21), ai cI (aM 23) 100 (o43.2 23), ai cI (aM 24) 100 (o43.2 24), ai cI (aM 26) 7 (o43.2 26), ai cI (aM 27) 5 (o43.2 27), ai cI (aM 28) 64 (o43.2 28)] H := hP
      have hD : va_D A [oX6 aM o43.2 vT, ai cI (aM 1) 70 (o43.2 1), ai cI (aM 2) 70 (o43.2 2), ai cI (aM 3) 40 (o43.2 3), ai cI (aM 4) 80 (o43.2 4), ai cZ (aM 5) 2 (o43.2 5), ai cI (aM 6) 200 (o43.2 6), ai cI (aM 8) 12 (o43.2 8), ai cI (aM 10) 12 (o43.2 10), ai cI (aM 18) 427 (o43.2 18), ai cI (aM 21) 100 (o43.2 21), ai cI (aM 23) 100 (o43.2 23), ai cI (aM 24) 100 (o43.2 24), ai cI (aM 26) 7 (o43.2 26), ai cI (aM 27) 5 (o43.2 27), ai cI (aM 28) 64 (o43.2 28)] := hD
      refine lv_if_eq (tgt := 60) hx hb dX6_lion_46 (by decide) (fun c46 => ?_) (fun c46 => ?_)
      · have h := (if_pos c46).symm.trans h
        refine lv_iconst (v := (0 : Int32)) hx hb dX6_lion_60 k_iconst_0 ?_
        have hres := Option.some.inj h
        subst hres
        exact hRet 61 nz0 _ _ _ hP hD hS dX6_lion_61
      · have h := (if_neg c46).symm.trans h
        refine lv_aload_n hx hb dX6_lion_49 rfl (lv_at hl 0 rfl) ?_
        obtain ⟨o50, ho50, h⟩ := bnd_some h
        refine call_VJ (wr := []) (As := []) (rest := []) ⟨hx, hb, hml, hown, hts⟩ (c_X6_ends l G cI cZ aM vT o43.2 o50 ho50) (cwV 0 hts gX6_lion_X6_ends rfl rfl rfl hdV_X6_ends ⟨Nat.le_of_ble_eq_true rfl, Nat.le_of_ble_eq_true rfl⟩) hEN hA hP hD hS [0, 1, 2, 3, 4, 5, 6, 7, 8, 9, 10, 11, 12, 13, 14, 15] [] rfl (by decide) rfl (by decide) (by decide) 0 rfl rfl rfl hl.1 rfl (Nat.le_of_ble_eq_true rfl) dX6_lion_50 ⟨Nat.le_of_ble_eq_true rfl, Nat.le_of_ble_eq_true rfl⟩ (fun H locs hP hD hS => ?_)
        have hP : va_P G vwCl [oX6 aM o50.2 vT, ai cI (aM 1) 70 (o50.2 1), ai cI (aM 2) 70 (o50.2 2), ai cI (aM 3) 40 (o50.2 3), ai cI (aM 4) 80 (o50.2 4), ai cZ (aM 5) 2 (o50.2 5), ai cI (aM 6) 200 (o50.2 6), ai cI (aM 8) 12 (o50.2 8), ai cI (aM 10) 12 (o50.2 10), ai cI (aM 18) 427 (o50.2 18), ai cI (aM 21) 100 (o50.2 21), ai cI (aM 23) 100 (o50.2 23), ai cI (aM 24) 100 (o50.2 24), ai cI (aM 26) 7 (o50.2 26), ai cI (aM 27) 5 (o50.2 27), ai cI (aM 28) 64 (o50.2 28)] H := hP
        have hD : va_D A [oX6 aM o50.2 vT, ai cI (aM 1) 70 (o50.2 1), ai cI (aM 2) 70 (o50.2 2), ai cI (aM 3) 40 (o50.2 3), ai cI (aM 4) 80 (o50.2 4), ai cZ (aM 5) 2 (o50.2 5), ai cI (aM 6) 200 (o50.2 6), ai cI (aM 8) 12 (o50.2 8), ai cI (aM 10) 12 (o50.2 10), ai cI (aM 18) 427 (o50.2 18), ai cI (aM 21) 100 (o50.2 21), ai cI (aM 23) 100 (o50.2 23), ai cI (aM 24) 100 (o50.2 24), ai cI (aM 26) 7 (o50.2 26), ai cI (aM 27) 5 (o50.2 27), ai cI (aM 28) 64 (o50.2 28)] := hD
        refine lv_if_eq (tgt := 60) hx hb dX6_lion_53 (by decide) (fun c53 => ?_) (fun c53 => ?_)
        · have h := (if_pos c53).symm.trans h
          refine lv_iconst (v := (0 : Int32)) hx hb dX6_lion_60 k_iconst_0 ?_
          have hres := Option.some.inj h
          subst hres
          exact hRet 61 nz0 _ _ _ hP hD hS dX6_lion_61
        · have h := (if_neg c53).symm.trans h
          refine lv_iconst (v := (1 : Int32)) hx hb dX6_lion_56 k_iconst_1 ?_
          refine lv_goto (tgt := 61) hx hb dX6_lion_57 (by decide) ?_
          have hres := Option.some.inj h
          subst hres
          exact hRet 61 nz1 _ _ _ hP hD hS dX6_lion_61
    · have h := (if_neg c29).symm.trans h
      refine lv_iconst (v := (0 : Int32)) hx hb dX6_lion_32 k_iconst_0 ?_
      have hres := Option.some.inj h
      subst hres
      exact hRet 33 nz0 _ _ _ hP hD hS dX6_lion_33
abbrev rm_X6_gate : Room := { frames := 5, cells := 0, slots := 0, locals := 113 }
theorem fi_X6_gate_X6 : ∀ w ∈ wsX60, w ∈ wsX6_gate := fun _ h => List.mem_cons_of_mem _ (List.mem_append_right _ h)
theorem hdV_X6_gate : yX6_gate.cls = RX6 ∧ yX6_gate.cls ≠ "java/lang/invoke/MethodHandle" ∧ yX6_gate.cls ≠ "java/lang/invoke/VarHandle" ∧ (parseMethodDescriptor yX6_gate.desc).map (fun d => d.parameters.length) = some 0 := by decide +kernel
set_option maxRecDepth 100000 in
set_option maxHeartbeats 4000000 in
theorem c_X6_gate (l : Launch) (G : va_G) (cI cZ : ClassId) (aM : Nat → Nat) (vT : Int64) (vM : Ob)  (res : Int32 × Ob) (h : m_X6_gate vM  = some res) : Ct l yX6_gate wsX6_gate rm_X6_gate G cI cZ [.ref (aM 0)] [oX6 aM vM vT, ai cI (aM 1) 70 (vM 1), ai cI (aM 2) 70 (vM 2), ai cI (aM 3) 40 (vM 3), ai cI (aM 4) 80 (vM 4), ai cZ (aM 5) 2 (vM 5), ai cI (aM 6) 200 (vM 6), ai cI (aM 8) 12 (vM 8), ai cI (aM 10) 12 (vM 10), ai cI (aM 18) 427 (vM 18), ai cI (aM 21) 100 (vM 21), ai cI (aM 23) 100 (vM 23), ai cI (aM 24) 100 (vM 24), ai cI (aM 26) 7 (vM 26), ai cI (aM 27) 5 (vM 27), ai cI (aM 28) 64 (vM 28)] (some (.int res.1)) [oX6 aM res.2 vT, ai cI (aM 1) 70 (res.2 1), ai cI (aM 2) 70 (res.2 2), ai cI (aM 3) 40 (res.2 3), ai cI (aM 4) 80 (res.2 4), ai cZ (aM 5) 2 (res.2 5), ai cI (aM 6) 200 (res.2 6), ai cI (aM 8) 12 (res.2 8), ai cI (aM 10) 12 (res.2 10), ai cI (aM 18) 427 (res.2 18), ai cI (aM 21) 100 (res.2 21), ai cI (aM 23) 100 (res.2 23), ai cI (aM 24) 100 (res.2 24), ai cI (aM 26) 7 (res.2 26), ai cI (aM 27) 5 (res.2 27), ai cI (aM 28) 64 (res.2 28)] := by
  refine Ct.of_z (maxL := 2) (by decide) rfl (Nat.le_of_ble_eq_true rfl) ?_
  intro p e s m below meth c args hx hb hml hown hts A hA hEN hP hD hS Q hRet ls hl
  have hown : s.vm.findClass RX6 = some m.cls := hown
  have hl : lv_has ls 2 [(0, .ref (aM 0))] := hl
  unfold m_X6_gate at h
  refine lv_aload_n hx hb dX6_gate_0 rfl (lv_at hl 0 rfl) ?_
  refine lv_iconst (v := (1 : Int32)) hx hb dX6_gate_1 k_iconst_1 ?_
  refine lv_aload_n hx hb dX6_gate_2 rfl (lv_at hl 0 rfl) ?_
  refine va_get (D := G) (ci := 6) (v := .ref (aM 2)) (C := RX6) (T := TX6) (N := 29) hx hb hts fi_X6_gate_X6 hown hEN.1 hP 0 rfl rfl 1 (by decide) (hts (.fieldLink RX6 13 "HourWellModel" "read" "[I") (List.mem_of_getElem? (i := 1) rfl)) (fun _ h9 => h9) rfl dX6_gate_3 ?_
  refine lv_iconst (v := (0 : Int32)) hx hb dX6_gate_6 k_iconst_0 ?_
  refine va_iald (f := (vM 2)) hx hb hEN.1 hP 2 0 rfl rfl (inb_in (i := (0 : Int32)) (n := 70) rfl) dX6_gate_7 ?_
  refine lv_iconst (v := (1 : Int32)) hx hb dX6_gate_8 k_iconst_1 ?_
  refine lv_isub hx hb dX6_gate_9 ?_
  obtain ⟨o10, ho10, h⟩ := bnd_some h
  refine call_VJ (wr := []) (As := [.int (1 : Int32), .int (((vM 2) (Int32.toNatClampNeg (0 : Int32))) - (1 : Int32))]) (rest := []) ⟨hx, hb, hml, hown, hts⟩ (c_X6_number l G cI cZ aM vT vM (1 : Int32) (((vM 2) (Int32.toNatClampNeg (0 : Int32))) - (1 : Int32)) o10 ho10) (cwV 2 hts gX6_gate_X6_number rfl rfl rfl hdV_X6_number ⟨Nat.le_of_ble_eq_true rfl, Nat.le_of_ble_eq_true rfl⟩) hEN hA hP hD hS [0, 1, 2, 3, 4, 5, 6, 7, 8, 9, 10, 11, 12, 13, 14, 15] [] rfl (by decide) rfl (by decide) (by decide) 0 rfl rfl rfl hl.1 rfl (Nat.le_of_ble_eq_true rfl) dX6_gate_10 ⟨Nat.le_of_ble_eq_true rfl, Nat.le_of_ble_eq_true rfl⟩ (fun H locs hP hD hS => ?_)
  have hP : va_P G vwCl [oX6 aM o10.2 vT, ai cI (aM 1) 70 (o10.2 1), ai cI (aM 2) 70 (o10.2 2), ai cI (aM 3) 40 (o10.2 3), ai cI (aM 4) 80 (o10.2 4), ai cZ (aM 5) 2 (o10.2 5), ai cI (aM 6) 200 (o10.2 6), ai cI (aM 8) 12 (o10.2 8), ai cI (aM 10) 12 (o10.2 10), ai cI (aM 18) 427 (o10.2 18), ai cI (aM 21) 100 (o10.2 21), ai cI (aM 23) 100 (o10.2 23), ai cI (aM 24) 100 (o10.2 24), ai cI (aM 26) 7 (o10.2 26), ai cI (aM 27) 5 (o10.2 27), ai cI (aM 28) 64 (o10.2 28)] H := hP
  have hD : va_D A [oX6 aM o10.2 vT, ai cI (aM 1) 70 (o10.2 1), ai cI (aM 2) 70 (o10.2 2), ai cI (aM 3) 40 (o10.2 3), ai cI (aM 4) 80 (o10.2 4), ai cZ (aM 5) 2 (o10.2 5), ai cI (aM 6) 200 (o10.2 6), ai cI (aM 8) 12 (o10.2 8), ai cI (aM 10) 12 (o10.2 10), ai cI (aM 18) 427 (o10.2 18), ai cI (aM 21) 100 (o10.2 21), ai cI (aM 23) 100 (o10.2 23), ai cI (aM 24) 100 (o10.2 24), ai cI (aM 26) 7 (o10.2 26), ai cI (aM 27) 5 (o10.2 27), ai cI (aM 28) 64 (o10.2 28)] := hD
  refine lv_if_eq (tgt := 33) hx hb dX6_gate_13 (by decide) (fun c13 => ?_) (fun c13 => ?_)
  · have h := (if_pos c13).symm.trans h
    refine lv_iconst (v := (0 : Int32)) hx hb dX6_gate_33 k_iconst_0 ?_
    have hres := Option.some.inj h
    subst hres
    exact hRet 34 nz0 _ _ _ hP hD hS dX6_gate_34
  · have h := (if_neg c13).symm.trans h
    refine lv_aload_n hx hb dX6_gate_16 rfl (lv_at hl 0 rfl) ?_
    refine va_get (D := G) (ci := 6) (v := .ref (aM 2)) (C := RX6) (T := TX6) (N := 29) hx hb hts fi_X6_gate_X6 hown hEN.1 hP 0 rfl rfl 1 (by decide) (hts (.fieldLink RX6 13 "HourWellModel" "read" "[I") (List.mem_of_getElem? (i := 1) rfl)) (fun _ h9 => h9) rfl dX6_gate_17 ?_
    refine lv_bipush (v := (11 : Int32)) hx hb dX6_gate_20 k_bipush_11 ?_
    refine lv_aload_n hx hb dX6_gate_22 rfl (lv_at hl 0 rfl) ?_
    refine va_get (D := G) (ci := 6) (v := .int (o10.2 0 15)) (C := RX6) (T := TX6) (N := 29) hx hb hts fi_X6_gate_X6 hown hEN.1 hP 0 rfl rfl 15 (by decide) (hts (.fieldLink RX6 98 "HourWellModel" "value" "I") (List.mem_of_getElem? (i := 2) rfl)) (fun _ h9 => h9) rfl dX6_gate_23 ?_
    refine lv_iadd hx hb dX6_gate_26 ?_
    obtain ⟨hg27, h⟩ := grd_some h
    refine va_iald (f := (o10.2 2)) hx hb hEN.1 hP 2 0 rfl rfl (inb_in hg27) dX6_gate_27 ?_
    refine lv_bipush (v := (-9 : Int32)) hx hb dX6_gate_28 k_bipush_n9 ?_
    refine lv_icmp_eq (tgt := 35) hx hb dX6_gate_30 (by decide) (fun c30 => ?_) (fun c30 => ?_)
    · have h := (if_pos c30).symm.trans h
      refine lv_aload_n hx hb dX6_gate_35 rfl (lv_at hl 0 rfl) ?_
      refine va_get (D := G) (ci := 6) (v := .int (o10.2 0 15)) (C := RX6) (T := TX6) (N := 29) hx hb hts fi_X6_gate_X6 hown hEN.1 hP 0 rfl rfl 15 (by decide) (hts (.fieldLink RX6 98 "HourWellModel" "value" "I") (List.mem_of_getElem? (i := 2) rfl)) (fun _ h9 => h9) rfl dX6_gate_36 ?_
      refine lv_istore_n (lv' := [(1, .int (o10.2 0 15)), (0, .ref (aM 0))]) hx hb dX6_gate_39 rfl hl (by decide) rfl (fun ls hl => ?_)
      refine lv_aload_n hx hb dX6_gate_40 rfl (lv_at hl 1 rfl) ?_
      refine lv_iconst (v := (0 : Int32)) hx hb dX6_gate_41 k_iconst_0 ?_
      refine lv_bipush (v := (23 : Int32)) hx hb dX6_gate_42 k_bipush_23 ?_
      refine lv_bipush (v := (11 : Int32)) hx hb dX6_gate_44 k_bipush_11 ?_
      refine lv_iload_n hx hb dX6_gate_46 rfl (lv_at hl 0 rfl) ?_
      refine lv_iadd hx hb dX6_gate_47 ?_
      obtain ⟨o48, ho48, h⟩ := bnd_some h
      refine call_VJ (wr := []) (As := [.int (0 : Int32), .int (23 : Int32), .int ((11 : Int32) + (o10.2 0 15))]) (rest := []) ⟨hx, hb, hml, hown, hts⟩ (c_X6_takes l G cI cZ aM vT o10.2 (0 : Int32) (23 : Int32) ((11 : Int32) + (o10.2 0 15)) o48 ho48) (cwV 3 hts gX6_gate_X6_takes rfl rfl rfl hdV_X6_takes ⟨Nat.le_of_ble_eq_true rfl, Nat.le_of_ble_eq_true rfl⟩) hEN hA hP hD hS [0, 1, 2, 3, 4, 5, 6, 7, 8, 9, 10, 11, 12, 13, 14, 15] [] rfl (by decide) rfl (by decide) (by decide) 0 rfl rfl rfl hl.1 rfl (Nat.le_of_ble_eq_true rfl) dX6_gate_48 ⟨Nat.le_of_ble_eq_true rfl, Nat.le_of_ble_eq_true rfl⟩ (fun H locs hP hD hS => ?_)
      have hP : va_P G vwCl [oX6 aM o48.2 vT, ai cI (aM 1) 70 (o48.2 1), ai cI (aM 2) 70 (o48.2 2), ai cI (aM 3) 40 (o48.2 3), ai cI (aM 4) 80 (o48.2 4), ai cZ (aM 5) 2 (o48.2 5), ai cI (aM 6) 200 (o48.2 6), ai cI (aM 8) 12 (o48.2 8), ai cI (aM 10) 12 (o48.2 10), ai cI (aM 18) 427 (o48.2 18), ai cI (aM 21) 100 (o48.2 21), ai cI (aM 23) 100 (o48.2 23), ai cI (aM 24) 100 (o48.2 24), ai cI (aM 26) 7 (o48.2 26), ai cI (aM 27) 5 (o48.2 27), ai cI (aM 28) 64 (o48.2 28)] H := hP
      have hD : va_D A [oX6 aM o48.2 vT, ai cI (aM 1) 70 (o48.2 1), ai cI (aM 2) 70 (o48.2 2), ai cI (aM 3) 40 (o48.2 3), ai cI (aM 4) 80 (o48.2 4), ai cZ (aM 5) 2 (o48.2 5), ai cI (aM 6) 200 (o48.2 6), ai cI (aM 8) 12 (o48.2 8), ai cI (aM 10) 12 (o48.2 10), ai cI (aM 18) 427 (o48.2 18), ai cI (aM 21) 100 (o48.2 21), ai cI (aM 23) 100 (o48.2 23), ai cI (aM 24) 100 (o48.2 24), ai cI (aM 26) 7 (o48.2 26), ai cI (aM 27) 5 (o48.2 27), ai cI (aM 28) 64 (o48.2 28)] := hD
      refine lv_if_eq (tgt := 79) hx hb dX6_gate_51 (by decide) (fun c51 => ?_) (fun c51 => ?_)
      · have h := (if_pos c51).symm.trans h
        refine lv_iconst (v := (0 : Int32)) hx hb dX6_gate_79 k_iconst_0 ?_
        have hres := Option.some.inj h
        subst hres
        exact hRet 80 nz0 _ _ _ hP hD hS dX6_gate_80
      · have h := (if_neg c51).symm.trans h
        refine lv_aload_n hx hb dX6_gate_54 rfl (lv_at hl 1 rfl) ?_
        refine lv_iconst (v := (1 : Int32)) hx hb dX6_gate_55 k_iconst_1 ?_
        refine lv_bipush (v := (24 : Int32)) hx hb dX6_gate_56 k_bipush_24 ?_
        refine lv_bipush (v := (18 : Int32)) hx hb dX6_gate_58 k_bipush_18 ?_
        refine lv_iload_n hx hb dX6_gate_60 rfl (lv_at hl 0 rfl) ?_
        refine lv_iadd hx hb dX6_gate_61 ?_
        obtain ⟨o62, ho62, h⟩ := bnd_some h
        refine call_VJ (wr := []) (As := [.int (1 : Int32), .int (24 : Int32), .int ((18 : Int32) + (o10.2 0 15))]) (rest := []) ⟨hx, hb, hml, hown, hts⟩ (c_X6_takes l G cI cZ aM vT o48.2 (1 : Int32) (24 : Int32) ((18 : Int32) + (o10.2 0 15)) o62 ho62) (cwV 3 hts gX6_gate_X6_takes rfl rfl rfl hdV_X6_takes ⟨Nat.le_of_ble_eq_true rfl, Nat.le_of_ble_eq_true rfl⟩) hEN hA hP hD hS [0, 1, 2, 3, 4, 5, 6, 7, 8, 9, 10, 11, 12, 13, 14, 15] [] rfl (by decide) rfl (by decide) (by decide) 0 rfl rfl rfl hl.1 rfl (Nat.le_of_ble_eq_true rfl) dX6_gate_62 ⟨Nat.le_of_ble_eq_true rfl, Nat.le_of_ble_eq_true rfl⟩ (fun H locs hP hD hS => ?_)
        have hP : va_P G vwCl [oX6 aM o62.2 vT, ai cI (aM 1) 70 (o62.2 1), ai cI (aM 2) 70 (o62.2 2), ai cI (aM 3) 40 (o62.2 3), ai cI (aM 4) 80 (o62.2 4), ai cZ (aM 5) 2 (o62.2 5), ai cI (aM 6) 200 (o62.2 6), ai cI (aM 8) 12 (o62.2 8), ai cI (aM 10) 12 (o62.2 10), ai cI (aM 18) 427 (o62.2 18), ai cI (aM 21) 100 (o62.2 21), ai cI (aM 23) 100 (o62.2 23), ai cI (aM 24) 100 (o62.2 24), ai cI (aM 26) 7 (o62.2 26), ai cI (aM 27) 5 (o62.2 27), ai cI (aM 28) 64 (o62.2 28)] H := hP
        have hD : va_D A [oX6 aM o62.2 vT, ai cI (aM 1) 70 (o62.2 1), ai cI (aM 2) 70 (o62.2 2), ai cI (aM 3) 40 (o62.2 3), ai cI (aM 4) 80 (o62.2 4), ai cZ (aM 5) 2 (o62.2 5), ai cI (aM 6) 200 (o62.2 6), ai cI (aM 8) 12 (o62.2 8), ai cI (aM 10) 12 (o62.2 10), ai cI (aM 18) 427 (o62.2 18), ai cI (aM 21) 100 (o62.2 21), ai cI (aM 23) 100 (o62.2 23), ai cI (aM 24) 100 (o62.2 24), ai cI (aM 26) 7 (o62.2 26), ai cI (aM 27) 5 (o62.2 27), ai cI (aM 28) 64 (o62.2 28)] := hD
        refine lv_if_eq (tgt := 79) hx hb dX6_gate_65 (by decide) (fun c65 => ?_) (fun c65 => ?_)
        · have h := (if_pos c65).symm.trans h
          refine lv_iconst (v := (0 : Int32)) hx hb dX6_gate_79 k_iconst_0 ?_
          have hres := Option.some.inj h
          subst hres
          exact hRet 80 nz0 _ _ _ hP hD hS dX6_gate_80
        · have h := (if_neg c65).symm.trans h
          refine lv_aload_n hx hb dX6_gate_68 rfl (lv_at hl 1 rfl) ?_
          obtain ⟨o69, ho69, h⟩ := bnd_some h
          refine call_VJ (wr := []) (As := []) (rest := []) ⟨hx, hb, hml, hown, hts⟩ (c_X6_ends l G cI cZ aM vT o62.2 o69 ho69) (cwV 0 hts gX6_gate_X6_ends rfl rfl rfl hdV_X6_ends ⟨Nat.le_of_ble_eq_true rfl, Nat.le_of_ble_eq_true rfl⟩) hEN hA hP hD hS [0, 1, 2, 3, 4, 5, 6, 7, 8, 9, 10, 11, 12, 13, 14, 15] [] rfl (by decide) rfl (by decide) (by decide) 0 rfl rfl rfl hl.1 rfl (Nat.le_of_ble_eq_true rfl) dX6_gate_69 ⟨Nat.le_of_ble_eq_true rfl, Nat.le_of_ble_eq_true rfl⟩ (fun H locs hP hD hS => ?_)
          have hP : va_P G vwCl [oX6 aM o69.2 vT, ai cI (aM 1) 70 (o69.2 1), ai cI (aM 2) 70 (o69.2 2), ai cI (aM 3) 40 (o69.2 3), ai cI (aM 4) 80 (o69.2 4), ai cZ (aM 5) 2 (o69.2 5), ai cI (aM 6) 200 (o69.2 6), ai cI (aM 8) 12 (o69.2 8), ai cI (aM 10) 12 (o69.2 10), ai cI (aM 18) 427 (o69.2 18), ai cI (aM 21) 100 (o69.2 21), ai cI (aM 23) 100 (o69.2 23), ai cI (aM 24) 100 (o69.2 24), ai cI (aM 26) 7 (o69.2 26), ai cI (aM 27) 5 (o69.2 27), ai cI (aM 28) 64 (o69.2 28)] H := hP
          have hD : va_D A [oX6 aM o69.2 vT, ai cI (aM 1) 70 (o69.2 1), ai cI (aM 2) 70 (o69.2 2), ai cI (aM 3) 40 (o69.2 3), ai cI (aM 4) 80 (o69.2 4), ai cZ (aM 5) 2 (o69.2 5), ai cI (aM 6) 200 (o69.2 6), ai cI (aM 8) 12 (o69.2 8), ai cI (aM 10) 12 (o69.2 10), ai cI (aM 18) 427 (o69.2 18), ai cI (aM 21) 100 (o69.2 21), ai cI (aM 23) 100 (o69.2 23), ai cI (aM 24) 100 (o69.2 24), ai cI (aM 26) 7 (o69.2 26), ai cI (aM 27) 5 (o69.2 27), ai cI (aM 28) 64 (o69.2 28)] := hD
          refine lv_if_eq (tgt := 79) hx hb dX6_gate_72 (by decide) (fun c72 => ?_) (fun c72 => ?_)
          · have h := (if_pos c72).symm.trans h
            refine lv_iconst (v := (0 : Int32)) hx hb dX6_gate_79 k_iconst_0 ?_
            have hres := Option.some.inj h
            subst hres
            exact hRet 80 nz0 _ _ _ hP hD hS dX6_gate_80
          · have h := (if_neg c72).symm.trans h
            refine lv_iconst (v := (1 : Int32)) hx hb dX6_gate_75 k_iconst_1 ?_
            refine lv_goto (tgt := 80) hx hb dX6_gate_76 (by decide) ?_
            have hres := Option.some.inj h
            subst hres
            exact hRet 80 nz1 _ _ _ hP hD hS dX6_gate_80
    · have h := (if_neg c30).symm.trans h
      refine lv_iconst (v := (0 : Int32)) hx hb dX6_gate_33 k_iconst_0 ?_
      have hres := Option.some.inj h
      subst hres
      exact hRet 34 nz0 _ _ _ hP hD hS dX6_gate_34
abbrev rm_X6_off : Room := { frames := 5, cells := 0, slots := 0, locals := 113 }
theorem fi_X6_off_X6 : ∀ w ∈ wsX60, w ∈ wsX6_off := fun _ h => List.mem_cons_of_mem _ (List.mem_append_right _ h)
theorem hdV_X6_off : yX6_off.cls = RX6 ∧ yX6_off.cls ≠ "java/lang/invoke/MethodHandle" ∧ yX6_off.cls ≠ "java/lang/invoke/VarHandle" ∧ (parseMethodDescriptor yX6_off.desc).map (fun d => d.parameters.length) = some 0 := by decide +kernel
set_option maxRecDepth 100000 in
set_option maxHeartbeats 4000000 in
theorem c_X6_off (l : Launch) (G : va_G) (cI cZ : ClassId) (aM : Nat → Nat) (vT : Int64) (vM : Ob)  (res : Int32 × Ob) (h : m_X6_off vM  = some res) : Ct l yX6_off wsX6_off rm_X6_off G cI cZ [.ref (aM 0)] [oX6 aM vM vT, ai cI (aM 1) 70 (vM 1), ai cI (aM 2) 70 (vM 2), ai cI (aM 3) 40 (vM 3), ai cI (aM 4) 80 (vM 4), ai cZ (aM 5) 2 (vM 5), ai cI (aM 6) 200 (vM 6), ai cI (aM 8) 12 (vM 8), ai cI (aM 10) 12 (vM 10), ai cI (aM 18) 427 (vM 18), ai cI (aM 21) 100 (vM 21), ai cI (aM 23) 100 (vM 23), ai cI (aM 24) 100 (vM 24), ai cI (aM 26) 7 (vM 26), ai cI (aM 27) 5 (vM 27), ai cI (aM 28) 64 (vM 28)] (some (.int res.1)) [oX6 aM res.2 vT, ai cI (aM 1) 70 (res.2 1), ai cI (aM 2) 70 (res.2 2), ai cI (aM 3) 40 (res.2 3), ai cI (aM 4) 80 (res.2 4), ai cZ (aM 5) 2 (res.2 5), ai cI (aM 6) 200 (res.2 6), ai cI (aM 8) 12 (res.2 8), ai cI (aM 10) 12 (res.2 10), ai cI (aM 18) 427 (res.2 18), ai cI (aM 21) 100 (res.2 21), ai cI (aM 23) 100 (res.2 23), ai cI (aM 24) 100 (res.2 24), ai cI (aM 26) 7 (res.2 26), ai cI (aM 27) 5 (res.2 27), ai cI (aM 28) 64 (res.2 28)] := by
  refine Ct.of_z (maxL := 1) (by decide) rfl (Nat.le_of_ble_eq_true rfl) ?_
  intro p e s m below meth c args hx hb hml hown hts A hA hEN hP hD hS Q hRet ls hl
  have hown : s.vm.findClass RX6 = some m.cls := hown
  have hl : lv_has ls 1 [(0, .ref (aM 0))] := hl
  unfold m_X6_off at h
  refine lv_aload_n hx hb dX6_off_0 rfl (lv_at hl 0 rfl) ?_
  refine va_get (D := G) (ci := 6) (v := .int (vM 0 16)) (C := RX6) (T := TX6) (N := 29) hx hb hts fi_X6_off_X6 hown hEN.1 hP 0 rfl rfl 16 (by decide) (hts (.fieldLink RX6 120 "HourWellModel" "isOff" "Z") (List.mem_of_getElem? (i := 1) rfl)) (fun _ h9 => h9) rfl dX6_off_1 ?_
  refine lv_if_eq (tgt := 9) hx hb dX6_off_4 (by decide) (fun c4 => ?_) (fun c4 => ?_)
  · have h := (if_pos c4).symm.trans h
    refine lv_aload_n hx hb dX6_off_9 rfl (lv_at hl 0 rfl) ?_
    refine lv_iconst (v := (1 : Int32)) hx hb dX6_off_10 k_iconst_1 ?_
    refine va_put (D := G) (ci := 6) (v := .int (1 : Int32)) (ty := .boolean) (C := RX6) (T := TX6) (N := 29) hx hb hts fi_X6_off_X6 tyX6 tyX6_ok nmX6 hown hEN.1 hP hD hS 0 rfl rfl 16 (by decide) (hts (.fieldLink RX6 120 "HourWellModel" "isOff" "Z") (List.mem_of_getElem? (i := 1) rfl)) (fun _ h9 => h9) rfl (by decide +kernel) rfl rfl (Nat.le_of_ble_eq_true rfl) dX6_off_11 (fun H locs hP hD hS => ?_)
    have hP : va_P G vwCl [oX6 aM (st vM 0 16 (1 : Int32)) vT, ai cI (aM 1) 70 (vM 1), ai cI (aM 2) 70 (vM 2), ai cI (aM 3) 40 (vM 3), ai cI (aM 4) 80 (vM 4), ai cZ (aM 5) 2 (vM 5), ai cI (aM 6) 200 (vM 6), ai cI (aM 8) 12 (vM 8), ai cI (aM 10) 12 (vM 10), ai cI (aM 18) 427 (vM 18), ai cI (aM 21) 100 (vM 21), ai cI (aM 23) 100 (vM 23), ai cI (aM 24) 100 (vM 24), ai cI (aM 26) 7 (vM 26), ai cI (aM 27) 5 (vM 27), ai cI (aM 28) 64 (vM 28)] H := hP
    have hD : va_D A [oX6 aM (st vM 0 16 (1 : Int32)) vT, ai cI (aM 1) 70 (vM 1), ai cI (aM 2) 70 (vM 2), ai cI (aM 3) 40 (vM 3), ai cI (aM 4) 80 (vM 4), ai cZ (aM 5) 2 (vM 5), ai cI (aM 6) 200 (vM 6), ai cI (aM 8) 12 (vM 8), ai cI (aM 10) 12 (vM 10), ai cI (aM 18) 427 (vM 18), ai cI (aM 21) 100 (vM 21), ai cI (aM 23) 100 (vM 23), ai cI (aM 24) 100 (vM 24), ai cI (aM 26) 7 (vM 26), ai cI (aM 27) 5 (vM 27), ai cI (aM 28) 64 (vM 28)] := hD
    refine lv_aload_n hx hb dX6_off_14 rfl (lv_at hl 0 rfl) ?_
    refine lv_iconst (v := (0 : Int32)) hx hb dX6_off_15 k_iconst_0 ?_
    refine lv_bipush (v := (6 : Int32)) hx hb dX6_off_16 k_bipush_6 ?_
    refine lv_iconst (v := (3 : Int32)) hx hb dX6_off_18 k_iconst_3 ?_
    obtain ⟨o19, ho19, h⟩ := bnd_some h
    refine call_VJ (wr := []) (As := [.int (0 : Int32), .int (6 : Int32), .int (3 : Int32)]) (rest := []) ⟨hx, hb, hml, hown, hts⟩ (c_X6_takes l G cI cZ aM vT (st vM 0 16 (1 : Int32)) (0 : Int32) (6 : Int32) (3 : Int32) o19 ho19) (cwV 3 hts gX6_off_X6_takes rfl rfl rfl hdV_X6_takes ⟨Nat.le_of_ble_eq_true rfl, Nat.le_of_ble_eq_true rfl⟩) hEN hA hP hD hS [0, 1, 2, 3, 4, 5, 6, 7, 8, 9, 10, 11, 12, 13, 14, 15] [] rfl (by decide) rfl (by decide) (by decide) 0 rfl rfl rfl hl.1 rfl (Nat.le_of_ble_eq_true rfl) dX6_off_19 ⟨Nat.le_of_ble_eq_true rfl, Nat.le_of_ble_eq_true rfl⟩ (fun H locs hP hD hS => ?_)
    have hP : va_P G vwCl [oX6 aM o19.2 vT, ai cI (aM 1) 70 (o19.2 1), ai cI (aM 2) 70 (o19.2 2), ai cI (aM 3) 40 (o19.2 3), ai cI (aM 4) 80 (o19.2 4), ai cZ (aM 5) 2 (o19.2 5), ai cI (aM 6) 200 (o19.2 6), ai cI (aM 8) 12 (o19.2 8), ai cI (aM 10) 12 (o19.2 10), ai cI (aM 18) 427 (o19.2 18), ai cI (aM 21) 100 (o19.2 21), ai cI (aM 23) 100 (o19.2 23), ai cI (aM 24) 100 (o19.2 24), ai cI (aM 26) 7 (o19.2 26), ai cI (aM 27) 5 (o19.2 27), ai cI (aM 28) 64 (o19.2 28)] H := hP
    have hD : va_D A [oX6 aM o19.2 vT, ai cI (aM 1) 70 (o19.2 1), ai cI (aM 2) 70 (o19.2 2), ai cI (aM 3) 40 (o19.2 3), ai cI (aM 4) 80 (o19.2 4), ai cZ (aM 5) 2 (o19.2 5), ai cI (aM 6) 200 (o19.2 6), ai cI (aM 8) 12 (o19.2 8), ai cI (aM 10) 12 (o19.2 10), ai cI (aM 18) 427 (o19.2 18), ai cI (aM 21) 100 (o19.2 21), ai cI (aM 23) 100 (o19.2 23), ai cI (aM 24) 100 (o19.2 24), ai cI (aM 26) 7 (o19.2 26), ai cI (aM 27) 5 (o19.2 27), ai cI (aM 28) 64 (o19.2 28)] := hD
    refine lv_if_eq (tgt := 36) hx hb dX6_off_22 (by decide) (fun c22 => ?_) (fun c22 => ?_)
    · have h := (if_pos c22).symm.trans h
      refine lv_iconst (v := (0 : Int32)) hx hb dX6_off_36 k_iconst_0 ?_
      have hres := Option.some.inj h
      subst hres
      exact hRet 37 nz0 _ _ _ hP hD hS dX6_off_37
    · have h := (if_neg c22).symm.trans h
      refine lv_aload_n hx hb dX6_off_25 rfl (lv_at hl 0 rfl) ?_
      obtain ⟨o26, ho26, h⟩ := bnd_some h
      refine call_VJ (wr := []) (As := []) (rest := []) ⟨hx, hb, hml, hown, hts⟩ (c_X6_ends l G cI cZ aM vT o19.2 o26 ho26) (cwV 0 hts gX6_off_X6_ends rfl rfl rfl hdV_X6_ends ⟨Nat.le_of_ble_eq_true rfl, Nat.le_of_ble_eq_true rfl⟩) hEN hA hP hD hS [0, 1, 2, 3, 4, 5, 6, 7, 8, 9, 10, 11, 12, 13, 14, 15] [] rfl (by decide) rfl (by decide) (by decide) 0 rfl rfl rfl hl.1 rfl (Nat.le_of_ble_eq_true rfl) dX6_off_26 ⟨Nat.le_of_ble_eq_true rfl, Nat.le_of_ble_eq_true rfl⟩ (fun H locs hP hD hS => ?_)
      have hP : va_P G vwCl [oX6 aM o26.2 vT, ai cI (aM 1) 70 (o26.2 1), ai cI (aM 2) 70 (o26.2 2), ai cI (aM 3) 40 (o26.2 3), ai cI (aM 4) 80 (o26.2 4), ai cZ (aM 5) 2 (o26.2 5), ai cI (aM 6) 200 (o26.2 6), ai cI (aM 8) 12 (o26.2 8), ai cI (aM 10) 12 (o26.2 10), ai cI (aM 18) 427 (o26.2 18), ai cI (aM 21) 100 (o26.2 21), ai cI (aM 23) 100 (o26.2 23), ai cI (aM 24) 100 (o26.2 24), ai cI (aM 26) 7 (o26.2 26), ai cI (aM 27) 5 (o26.2 27), ai cI (aM 28) 64 (o26.2 28)] H := hP
      have hD : va_D A [oX6 aM o26.2 vT, ai cI (aM 1) 70 (o26.2 1), ai cI (aM 2) 70 (o26.2 2), ai cI (aM 3) 40 (o26.2 3), ai cI (aM 4) 80 (o26.2 4), ai cZ (aM 5) 2 (o26.2 5), ai cI (aM 6) 200 (o26.2 6), ai cI (aM 8) 12 (o26.2 8), ai cI (aM 10) 12 (o26.2 10), ai cI (aM 18) 427 (o26.2 18), ai cI (aM 21) 100 (o26.2 21), ai cI (aM 23) 100 (o26.2 23), ai cI (aM 24) 100 (o26.2 24), ai cI (aM 26) 7 (o26.2 26), ai cI (aM 27) 5 (o26.2 27), ai cI (aM 28) 64 (o26.2 28)] := hD
      refine lv_if_eq (tgt := 36) hx hb dX6_off_29 (by decide) (fun c29 => ?_) (fun c29 => ?_)
      · have h := (if_pos c29).symm.trans h
        refine lv_iconst (v := (0 : Int32)) hx hb dX6_off_36 k_iconst_0 ?_
        have hres := Option.some.inj h
        subst hres
        exact hRet 37 nz0 _ _ _ hP hD hS dX6_off_37
      · have h := (if_neg c29).symm.trans h
        refine lv_iconst (v := (1 : Int32)) hx hb dX6_off_32 k_iconst_1 ?_
        refine lv_goto (tgt := 37) hx hb dX6_off_33 (by decide) ?_
        have hres := Option.some.inj h
        subst hres
        exact hRet 37 nz1 _ _ _ hP hD hS dX6_off_37
  · have h := (if_neg c4).symm.trans h
    refine lv_iconst (v := (0 : Int32)) hx hb dX6_off_7 k_iconst_0 ?_
    have hres := Option.some.inj h
    subst hres
    exact hRet 8 nz0 _ _ _ hP hD hS dX6_off_8
abbrev rm_X6_takesItem : Room := { frames := 6, cells := 0, slots := 0, locals := 135 }
theorem fi_X6_takesItem_X6 : ∀ w ∈ wsX60, w ∈ wsX6_takesItem := fun _ h => List.mem_cons_of_mem _ (List.mem_append_right _ h)
theorem hdV_X6_takesItem : yX6_takesItem.cls = RX6 ∧ yX6_takesItem.cls ≠ "java/lang/invoke/MethodHandle" ∧ yX6_takesItem.cls ≠ "java/lang/invoke/VarHandle" ∧ (parseMethodDescriptor yX6_takesItem.desc).map (fun d => d.parameters.length) = some 0 := by decide +kernel
set_option maxRecDepth 100000 in
set_option maxHeartbeats 4000000 in
theorem c_X6_takesItem (l : Launch) (G : va_G) (cI cZ : ClassId) (aM : Nat → Nat) (vT : Int64) (vM : Ob)  (res : Int32 × Ob) (h : m_X6_takesItem vM  = some res) : Ct l yX6_takesItem wsX6_takesItem rm_X6_takesItem G cI cZ [.ref (aM 0)] [oX6 aM vM vT, ai cI (aM 1) 70 (vM 1), ai cI (aM 2) 70 (vM 2), ai cI (aM 3) 40 (vM 3), ai cI (aM 4) 80 (vM 4), ai cZ (aM 5) 2 (vM 5), ai cI (aM 6) 200 (vM 6), ai cI (aM 8) 12 (vM 8), ai cI (aM 10) 12 (vM 10), ai cI (aM 18) 427 (vM 18), ai cI (aM 21) 100 (vM 21), ai cI (aM 23) 100 (vM 23), ai cI (aM 24) 100 (vM 24), ai cI (aM 26) 7 (vM 26), ai cI (aM 27) 5 (vM 27), ai cI (aM 28) 64 (vM 28)] (some (.int res.1)) [oX6 aM res.2 vT, ai cI (aM 1) 70 (res.2 1), ai cI (aM 2) 70 (res.2 2), ai cI (aM 3) 40 (res.2 3), ai cI (aM 4) 80 (res.2 4), ai cZ (aM 5) 2 (res.2 5), ai cI (aM 6) 200 (res.2 6), ai cI (aM 8) 12 (res.2 8), ai cI (aM 10) 12 (res.2 10), ai cI (aM 18) 427 (res.2 18), ai cI (aM 21) 100 (res.2 21), ai cI (aM 23) 100 (res.2 23), ai cI (aM 24) 100 (res.2 24), ai cI (aM 26) 7 (res.2 26), ai cI (aM 27) 5 (res.2 27), ai cI (aM 28) 64 (res.2 28)] := by
  refine Ct.of_z (maxL := 1) (by decide) rfl (Nat.le_of_ble_eq_true rfl) ?_
  intro p e s m below meth c args hx hb hml hown hts A hA hEN hP hD hS Q hRet ls hl
  have hown : s.vm.findClass RX6 = some m.cls := hown
  have hl : lv_has ls 1 [(0, .ref (aM 0))] := hl
  have j16 : ∀ (vM : Ob) (s0 : Int32), m_X6_takesItem_j16  vM s0 = some res → ∀ (H : Heap) (locs : List Loc) (ls : Array Slot), va_P G vwCl [oX6 aM vM vT, ai cI (aM 1) 70 (vM 1), ai cI (aM 2) 70 (vM 2), ai cI (aM 3) 40 (vM 3), ai cI (aM 4) 80 (vM 4), ai cZ (aM 5) 2 (vM 5), ai cI (aM 6) 200 (vM 6), ai cI (aM 8) 12 (vM 8), ai cI (aM 10) 12 (vM 10), ai cI (aM 18) 427 (vM 18), ai cI (aM 21) 100 (vM 21), ai cI (aM 23) 100 (vM 23), ai cI (aM 24) 100 (vM 24), ai cI (aM 26) 7 (vM 26), ai cI (aM 27) 5 (vM 27), ai cI (aM 28) 64 (vM 28)] H → va_D A [oX6 aM vM vT, ai cI (aM 1) 70 (vM 1), ai cI (aM 2) 70 (vM 2), ai cI (aM 3) 40 (vM 3), ai cI (aM 4) 80 (vM 4), ai cZ (aM 5) 2 (vM 5), ai cI (aM 6) 200 (vM 6), ai cI (aM 8) 12 (vM 8), ai cI (aM 10) 12 (vM 10), ai cI (aM 18) 427 (vM 18), ai cI (aM 21) 100 (vM 21), ai cI (aM 23) 100 (vM 23), ai cI (aM 24) 100 (vM 24), ai cI (aM 26) 7 (vM 26), ai cI (aM 27) 5 (vM 27), ai cI (aM 28) 64 (vM 28)] → va_S A s.heap H locs → lv_has ls 1 [(0, .ref (aM 0))] → W p l e rm_X6_takesItem s m args below meth c H locs 0 0 Q (F0 m 16 ls [.int s0]) := by
    intro vM s0 h H locs ls hP hD hS hl
    unfold m_X6_takesItem_j16 at h
    by_cases c16_0 : s0 = (103 : Int32)
    · have h := (if_pos c16_0).symm.trans h
      refine lv_tableIn (off := 84) (tgt := 100) hx hb dX6_takesItem_16 (by rw [c16_0]; decide) (by rw [c16_0]; decide) (by rw [c16_0]; decide) (by decide) ?_
      refine lv_aload_n hx hb dX6_takesItem_100 rfl (lv_at hl 0 rfl) ?_
      obtain ⟨o101, ho101, h⟩ := bnd_some h
      refine call_VJ (wr := []) (As := []) (rest := []) ⟨hx, hb, hml, hown, hts⟩ (c_X6_gate l G cI cZ aM vT vM o101 ho101) (cwV 0 hts gX6_takesItem_X6_gate rfl rfl rfl hdV_X6_gate ⟨Nat.le_of_ble_eq_true rfl, Nat.le_of_ble_eq_true rfl⟩) hEN hA hP hD hS [0, 1, 2, 3, 4, 5, 6, 7, 8, 9, 10, 11, 12, 13, 14, 15] [] rfl (by decide) rfl (by decide) (by decide) 0 rfl rfl rfl hl.1 rfl (Nat.le_of_ble_eq_true rfl) dX6_takesItem_101 ⟨Nat.le_of_ble_eq_true rfl, Nat.le_of_ble_eq_true rfl⟩ (fun H locs hP hD hS => ?_)
      have hP : va_P G vwCl [oX6 aM o101.2 vT, ai cI (aM 1) 70 (o101.2 1), ai cI (aM 2) 70 (o101.2 2), ai cI (aM 3) 40 (o101.2 3), ai cI (aM 4) 80 (o101.2 4), ai cZ (aM 5) 2 (o101.2 5), ai cI (aM 6) 200 (o101.2 6), ai cI (aM 8) 12 (o101.2 8), ai cI (aM 10) 12 (o101.2 10), ai cI (aM 18) 427 (o101.2 18), ai cI (aM 21) 100 (o101.2 21), ai cI (aM 23) 100 (o101.2 23), ai cI (aM 24) 100 (o101.2 24), ai cI (aM 26) 7 (o101.2 26), ai cI (aM 27) 5 (o101.2 27), ai cI (aM 28) 64 (o101.2 28)] H := hP
      have hD : va_D A [oX6 aM o101.2 vT, ai cI (aM 1) 70 (o101.2 1), ai cI (aM 2) 70 (o101.2 2), ai cI (aM 3) 40 (o101.2 3), ai cI (aM 4) 80 (o101.2 4), ai cZ (aM 5) 2 (o101.2 5), ai cI (aM 6) 200 (o101.2 6), ai cI (aM 8) 12 (o101.2 8), ai cI (aM 10) 12 (o101.2 10), ai cI (aM 18) 427 (o101.2 18), ai cI (aM 21) 100 (o101.2 21), ai cI (aM 23) 100 (o101.2 23), ai cI (aM 24) 100 (o101.2 24), ai cI (aM 26) 7 (o101.2 26), ai cI (aM 27) 5 (o101.2 27), ai cI (aM 28) 64 (o101.2 28)] := hD
      obtain ⟨hg104, h⟩ := grd_some h
      have hres := Option.some.inj h
      subst hres
      exact hRet 104 (bz_n hg104) _ _ _ hP hD hS dX6_takesItem_104
    · have h := (if_neg c16_0).symm.trans h
      by_cases c16_1 : s0 = (104 : Int32)
      · have h := (if_pos c16_1).symm.trans h
        refine lv_tableIn (off := 74) (tgt := 90) hx hb dX6_takesItem_16 (by rw [c16_1]; decide) (by rw [c16_1]; decide) (by rw [c16_1]; decide) (by decide) ?_
        refine lv_aload_n hx hb dX6_takesItem_90 rfl (lv_at hl 0 rfl) ?_
        obtain ⟨o91, ho91, h⟩ := bnd_some h
        refine call_VJ (wr := []) (As := []) (rest := []) ⟨hx, hb, hml, hown, hts⟩ (c_X6_hosts l G cI cZ aM vT vM o91 ho91) (cwV 0 hts gX6_takesItem_X6_hosts rfl rfl rfl hdV_X6_hosts ⟨Nat.le_of_ble_eq_true rfl, Nat.le_of_ble_eq_true rfl⟩) hEN hA hP hD hS [0, 1, 2, 3, 4, 5, 6, 7, 8, 9, 10, 11, 12, 13, 14, 15] [] rfl (by decide) rfl (by decide) (by decide) 0 rfl rfl rfl hl.1 rfl (Nat.le_of_ble_eq_true rfl) dX6_takesItem_91 ⟨Nat.le_of_ble_eq_true rfl, Nat.le_of_ble_eq_true rfl⟩ (fun H locs hP hD hS => ?_)
        have hP : va_P G vwCl [oX6 aM o91.2 vT, ai cI (aM 1) 70 (o91.2 1), ai cI (aM 2) 70 (o91.2 2), ai cI (aM 3) 40 (o91.2 3), ai cI (aM 4) 80 (o91.2 4), ai cZ (aM 5) 2 (o91.2 5), ai cI (aM 6) 200 (o91.2 6), ai cI (aM 8) 12 (o91.2 8), ai cI (aM 10) 12 (o91.2 10), ai cI (aM 18) 427 (o91.2 18), ai cI (aM 21) 100 (o91.2 21), ai cI (aM 23) 100 (o91.2 23), ai cI (aM 24) 100 (o91.2 24), ai cI (aM 26) 7 (o91.2 26), ai cI (aM 27) 5 (o91.2 27), ai cI (aM 28) 64 (o91.2 28)] H := hP
        have hD : va_D A [oX6 aM o91.2 vT, ai cI (aM 1) 70 (o91.2 1), ai cI (aM 2) 70 (o91.2 2), ai cI (aM 3) 40 (o91.2 3), ai cI (aM 4) 80 (o91.2 4), ai cZ (aM 5) 2 (o91.2 5), ai cI (aM 6) 200 (o91.2 6), ai cI (aM 8) 12 (o91.2 8), ai cI (aM 10) 12 (o91.2 10), ai cI (aM 18) 427 (o91.2 18), ai cI (aM 21) 100 (o91.2 21), ai cI (aM 23) 100 (o91.2 23), ai cI (aM 24) 100 (o91.2 24), ai cI (aM 26) 7 (o91.2 26), ai cI (aM 27) 5 (o91.2 27), ai cI (aM 28) 64 (o91.2 28)] := hD
        obtain ⟨hg94, h⟩ := grd_some h
        have hres := Option.some.inj h
        subst hres
        exact hRet 94 (bz_n hg94) _ _ _ hP hD hS dX6_takesItem_94
      · have h := (if_neg c16_1).symm.trans h
        by_cases c16_2 : s0 = (108 : Int32)
        · have h := (if_pos c16_2).symm.trans h
          refine lv_tableIn (off := 79) (tgt := 95) hx hb dX6_takesItem_16 (by rw [c16_2]; decide) (by rw [c16_2]; decide) (by rw [c16_2]; decide) (by decide) ?_
          refine lv_aload_n hx hb dX6_takesItem_95 rfl (lv_at hl 0 rfl) ?_
          obtain ⟨o96, ho96, h⟩ := bnd_some h
          refine call_VJ (wr := []) (As := []) (rest := []) ⟨hx, hb, hml, hown, hts⟩ (c_X6_lion l G cI cZ aM vT vM o96 ho96) (cwV 0 hts gX6_takesItem_X6_lion rfl rfl rfl hdV_X6_lion ⟨Nat.le_of_ble_eq_true rfl, Nat.le_of_ble_eq_true rfl⟩) hEN hA hP hD hS [0, 1, 2, 3, 4, 5, 6, 7, 8, 9, 10, 11, 12, 13, 14, 15] [] rfl (by decide) rfl (by decide) (by decide) 0 rfl rfl rfl hl.1 rfl (Nat.le_of_ble_eq_true rfl) dX6_takesItem_96 ⟨Nat.le_of_ble_eq_true rfl, Nat.le_of_ble_eq_true rfl⟩ (fun H locs hP hD hS => ?_)
          have hP : va_P G vwCl [oX6 aM o96.2 vT, ai cI (aM 1) 70 (o96.2 1), ai cI (aM 2) 70 (o96.2 2), ai cI (aM 3) 40 (o96.2 3), ai cI (aM 4) 80 (o96.2 4), ai cZ (aM 5) 2 (o96.2 5), ai cI (aM 6) 200 (o96.2 6), ai cI (aM 8) 12 (o96.2 8), ai cI (aM 10) 12 (o96.2 10), ai cI (aM 18) 427 (o96.2 18), ai cI (aM 21) 100 (o96.2 21), ai cI (aM 23) 100 (o96.2 23), ai cI (aM 24) 100 (o96.2 24), ai cI (aM 26) 7 (o96.2 26), ai cI (aM 27) 5 (o96.2 27), ai cI (aM 28) 64 (o96.2 28)] H := hP
          have hD : va_D A [oX6 aM o96.2 vT, ai cI (aM 1) 70 (o96.2 1), ai cI (aM 2) 70 (o96.2 2), ai cI (aM 3) 40 (o96.2 3), ai cI (aM 4) 80 (o96.2 4), ai cZ (aM 5) 2 (o96.2 5), ai cI (aM 6) 200 (o96.2 6), ai cI (aM 8) 12 (o96.2 8), ai cI (aM 10) 12 (o96.2 10), ai cI (aM 18) 427 (o96.2 18), ai cI (aM 21) 100 (o96.2 21), ai cI (aM 23) 100 (o96.2 23), ai cI (aM 24) 100 (o96.2 24), ai cI (aM 26) 7 (o96.2 26), ai cI (aM 27) 5 (o96.2 27), ai cI (aM 28) 64 (o96.2 28)] := hD
          obtain ⟨hg99, h⟩ := grd_some h
          have hres := Option.some.inj h
          subst hres
          exact hRet 99 (bz_n hg99) _ _ _ hP hD hS dX6_takesItem_99
        · have h := (if_neg c16_2).symm.trans h
          by_cases c16_3 : s0 = (111 : Int32)
          · have h := (if_pos c16_3).symm.trans h
            refine lv_tableIn (off := 89) (tgt := 105) hx hb dX6_takesItem_16 (by rw [c16_3]; decide) (by rw [c16_3]; decide) (by rw [c16_3]; decide) (by decide) ?_
            refine lv_aload_n hx hb dX6_takesItem_105 rfl (lv_at hl 0 rfl) ?_
            obtain ⟨o106, ho106, h⟩ := bnd_some h
            refine call_VJ (wr := []) (As := []) (rest := []) ⟨hx, hb, hml, hown, hts⟩ (c_X6_off l G cI cZ aM vT vM o106 ho106) (cwV 0 hts gX6_takesItem_X6_off rfl rfl rfl hdV_X6_off ⟨Nat.le_of_ble_eq_true rfl, Nat.le_of_ble_eq_true rfl⟩) hEN hA hP hD hS [0, 1, 2, 3, 4, 5, 6, 7, 8, 9, 10, 11, 12, 13, 14, 15] [] rfl (by decide) rfl (by decide) (by decide) 0 rfl rfl rfl hl.1 rfl (Nat.le_of_ble_eq_true rfl) dX6_takesItem_106 ⟨Nat.le_of_ble_eq_true rfl, Nat.le_of_ble_eq_true rfl⟩ (fun H locs hP hD hS => ?_)
            have hP : va_P G vwCl [oX6 aM o106.2 vT, ai cI (aM 1) 70 (o106.2 1), ai cI (aM 2) 70 (o106.2 2), ai cI (aM 3) 40 (o106.2 3), ai cI (aM 4) 80 (o106.2 4), ai cZ (aM 5) 2 (o106.2 5), ai cI (aM 6) 200 (o106.2 6), ai cI (aM 8) 12 (o106.2 8), ai cI (aM 10) 12 (o106.2 10), ai cI (aM 18) 427 (o106.2 18), ai cI (aM 21) 100 (o106.2 21), ai cI (aM 23) 100 (o106.2 23), ai cI (aM 24) 100 (o106.2 24), ai cI (aM 26) 7 (o106.2 26), ai cI (aM 27) 5 (o106.2 27), ai cI (aM 28) 64 (o106.2 28)] H := hP
            have hD : va_D A [oX6 aM o106.2 vT, ai cI (aM 1) 70 (o106.2 1), ai cI (aM 2) 70 (o106.2 2), ai cI (aM 3) 40 (o106.2 3), ai cI (aM 4) 80 (o106.2 4), ai cZ (aM 5) 2 (o106.2 5), ai cI (aM 6) 200 (o106.2 6), ai cI (aM 8) 12 (o106.2 8), ai cI (aM 10) 12 (o106.2 10), ai cI (aM 18) 427 (o106.2 18), ai cI (aM 21) 100 (o106.2 21), ai cI (aM 23) 100 (o106.2 23), ai cI (aM 24) 100 (o106.2 24), ai cI (aM 26) 7 (o106.2 26), ai cI (aM 27) 5 (o106.2 27), ai cI (aM 28) 64 (o106.2 28)] := hD
            obtain ⟨hg109, h⟩ := grd_some h
            have hres := Option.some.inj h
            subst hres
            exact hRet 109 (bz_n hg109) _ _ _ hP hD hS dX6_takesItem_109
          · have h := (if_neg c16_3).symm.trans h
            by_cases c16_4 : s0 = (112 : Int32)
            · have h := (if_pos c16_4).symm.trans h
              refine lv_tableIn (off := 64) (tgt := 80) hx hb dX6_takesItem_16 (by rw [c16_4]; decide) (by rw [c16_4]; decide) (by rw [c16_4]; decide) (by decide) ?_
              refine lv_aload_n hx hb dX6_takesItem_80 rfl (lv_at hl 0 rfl) ?_
              obtain ⟨o81, ho81, h⟩ := bnd_some h
              refine call_VJ (wr := []) (As := []) (rest := []) ⟨hx, hb, hml, hown, hts⟩ (c_X6_places l G cI cZ aM vT vM o81 ho81) (cwV 0 hts gX6_takesItem_X6_places rfl rfl rfl hdV_X6_places ⟨Nat.le_of_ble_eq_true rfl, Nat.le_of_ble_eq_true rfl⟩) hEN hA hP hD hS [0, 1, 2, 3, 4, 5, 6, 7, 8, 9, 10, 11, 12, 13, 14, 15] [] rfl (by decide) rfl (by decide) (by decide) 0 rfl rfl rfl hl.1 rfl (Nat.le_of_ble_eq_true rfl) dX6_takesItem_81 ⟨Nat.le_of_ble_eq_true rfl, Nat.le_of_ble_eq_true rfl⟩ (fun H locs hP hD hS => ?_)
              have hP : va_P G vwCl [oX6 aM o81.2 vT, ai cI (aM 1) 70 (o81.2 1), ai cI (aM 2) 70 (o81.2 2), ai cI (aM 3) 40 (o81.2 3), ai cI (aM 4) 80 (o81.2 4), ai cZ (aM 5) 2 (o81.2 5), ai cI (aM 6) 200 (o81.2 6), ai cI (aM 8) 12 (o81.2 8), ai cI (aM 10) 12 (o81.2 10), ai cI (aM 18) 427 (o81.2 18), ai cI (aM 21) 100 (o81.2 21), ai cI (aM 23) 100 (o81.2 23), ai cI (aM 24) 100 (o81.2 24), ai cI (aM 26) 7 (o81.2 26), ai cI (aM 27) 5 (o81.2 27), ai cI (aM 28) 64 (o81.2 28)] H := hP
              have hD : va_D A [oX6 aM o81.2 vT, ai cI (aM 1) 70 (o81.2 1), ai cI (aM 2) 70 (o81.2 2), ai cI (aM 3) 40 (o81.2 3), ai cI (aM 4) 80 (o81.2 4), ai cZ (aM 5) 2 (o81.2 5), ai cI (aM 6) 200 (o81.2 6), ai cI (aM 8) 12 (o81.2 8), ai cI (aM 10) 12 (o81.2 10), ai cI (aM 18) 427 (o81.2 18), ai cI (aM 21) 100 (o81.2 21), ai cI (aM 23) 100 (o81.2 23), ai cI (aM 24) 100 (o81.2 24), ai cI (aM 26) 7 (o81.2 26), ai cI (aM 27) 5 (o81.2 27), ai cI (aM 28) 64 (o81.2 28)] := hD
              obtain ⟨hg84, h⟩ := grd_some h
              have hres := Option.some.inj h
              subst hres
              exact hRet 84 (bz_n hg84) _ _ _ hP hD hS dX6_takesItem_84
            · have h := (if_neg c16_4).symm.trans h
              by_cases c16_5 : s0 = (114 : Int32)
              · have h := (if_pos c16_5).symm.trans h
                refine lv_tableIn (off := 69) (tgt := 85) hx hb dX6_takesItem_16 (by rw [c16_5]; decide) (by rw [c16_5]; decide) (by rw [c16_5]; decide) (by decide) ?_
                refine lv_aload_n hx hb dX6_takesItem_85 rfl (lv_at hl 0 rfl) ?_
                obtain ⟨o86, ho86, h⟩ := bnd_some h
                refine call_VJ (wr := []) (As := []) (rest := []) ⟨hx, hb, hml, hown, hts⟩ (c_X6_roads l G cI cZ aM vT vM o86 ho86) (cwV 0 hts gX6_takesItem_X6_roads rfl rfl rfl hdV_X6_roads ⟨Nat.le_of_ble_eq_true rfl, Nat.le_of_ble_eq_true rfl⟩) hEN hA hP hD hS [0, 1, 2, 3, 4, 5, 6, 7, 8, 9, 10, 11, 12, 13, 14, 15] [] rfl (by decide) rfl (by decide) (by decide) 0 rfl rfl rfl hl.1 rfl (Nat.le_of_ble_eq_true rfl) dX6_takesItem_86 ⟨Nat.le_of_ble_eq_true rfl, Nat.le_of_ble_eq_true rfl⟩ (fun H locs hP hD hS => ?_)
                have hP : va_P G vwCl [oX6 aM o86.2 vT, ai cI (aM 1) 70 (o86.2 1), ai cI (aM 2) 70 (o86.2 2), ai cI (aM 3) 40 (o86.2 3), ai cI (aM 4) 80 (o86.2 4), ai cZ (aM 5) 2 (o86.2 5), ai cI (aM 6) 200 (o86.2 6), ai cI (aM 8) 12 (o86.2 8), ai cI (aM 10) 12 (o86.2 10), ai cI (aM 18) 427 (o86.2 18), ai cI (aM 21) 100 (o86.2 21), ai cI (aM 23) 100 (o86.2 23), ai cI (aM 24) 100 (o86.2 24), ai cI (aM 26) 7 (o86.2 26), ai cI (aM 27) 5 (o86.2 27), ai cI (aM 28) 64 (o86.2 28)] H := hP
                have hD : va_D A [oX6 aM o86.2 vT, ai cI (aM 1) 70 (o86.2 1), ai cI (aM 2) 70 (o86.2 2), ai cI (aM 3) 40 (o86.2 3), ai cI (aM 4) 80 (o86.2 4), ai cZ (aM 5) 2 (o86.2 5), ai cI (aM 6) 200 (o86.2 6), ai cI (aM 8) 12 (o86.2 8), ai cI (aM 10) 12 (o86.2 10), ai cI (aM 18) 427 (o86.2 18), ai cI (aM 21) 100 (o86.2 21), ai cI (aM 23) 100 (o86.2 23), ai cI (aM 24) 100 (o86.2 24), ai cI (aM 26) 7 (o86.2 26), ai cI (aM 27) 5 (o86.2 27), ai cI (aM 28) 64 (o86.2 28)] := hD
                obtain ⟨hg89, h⟩ := grd_some h
                have hres := Option.some.inj h
                subst hres
                exact hRet 89 (bz_n hg89) _ _ _ hP hD hS dX6_takesItem_89
              · have h := (if_neg c16_5).symm.trans h
                by_cases c16_h105 : s0 = (105 : Int32)
                · refine lv_tableIn (off := 94) (tgt := 110) hx hb dX6_takesItem_16 (by rw [c16_h105]; decide) (by rw [c16_h105]; decide) (by rw [c16_h105]; decide) (by decide) ?_
                  refine lv_iconst (v := (0 : Int32)) hx hb dX6_takesItem_110 k_iconst_0 ?_
                  have hres := Option.some.inj h
                  subst hres
                  exact hRet 111 nz0 _ _ _ hP hD hS dX6_takesItem_111
                by_cases c16_h106 : s0 = (106 : Int32)
                · refine lv_tableIn (off := 94) (tgt := 110) hx hb dX6_takesItem_16 (by rw [c16_h106]; decide) (by rw [c16_h106]; decide) (by rw [c16_h106]; decide) (by decide) ?_
                  refine lv_iconst (v := (0 : Int32)) hx hb dX6_takesItem_110 k_iconst_0 ?_
                  have hres := Option.some.inj h
                  subst hres
                  exact hRet 111 nz0 _ _ _ hP hD hS dX6_takesItem_111
                by_cases c16_h107 : s0 = (107 : Int32)
                · refine lv_tableIn (off := 94) (tgt := 110) hx hb dX6_takesItem_16 (by rw [c16_h107]; decide) (by rw [c16_h107]; decide) (by rw [c16_h107]; decide) (by decide) ?_
                  refine lv_iconst (v := (0 : Int32)) hx hb dX6_takesItem_110 k_iconst_0 ?_
                  have hres := Option.some.inj h
                  subst hres
                  exact hRet 111 nz0 _ _ _ hP hD hS dX6_takesItem_111
                by_cases c16_h109 : s0 = (109 : Int32)
                · refine lv_tableIn (off := 94) (tgt := 110) hx hb dX6_takesItem_16 (by rw [c16_h109]; decide) (by rw [c16_h109]; decide) (by rw [c16_h109]; decide) (by decide) ?_
                  refine lv_iconst (v := (0 : Int32)) hx hb dX6_takesItem_110 k_iconst_0 ?_
                  have hres := Option.some.inj h
                  subst hres
                  exact hRet 111 nz0 _ _ _ hP hD hS dX6_takesItem_111
                by_cases c16_h110 : s0 = (110 : Int32)
                · refine lv_tableIn (off := 94) (tgt := 110) hx hb dX6_takesItem_16 (by rw [c16_h110]; decide) (by rw [c16_h110]; decide) (by rw [c16_h110]; decide) (by decide) ?_
                  refine lv_iconst (v := (0 : Int32)) hx hb dX6_takesItem_110 k_iconst_0 ?_
                  have hres := Option.some.inj h
                  subst hres
                  exact hRet 111 nz0 _ _ _ hP hD hS dX6_takesItem_111
                by_cases c16_h113 : s0 = (113 : Int32)
                · refine lv_tableIn (off := 94) (tgt := 110) hx hb dX6_takesItem_16 (by rw [c16_h113]; decide) (by rw [c16_h113]; decide) (by rw [c16_h113]; decide) (by decide) ?_
                  refine lv_iconst (v := (0 : Int32)) hx hb dX6_takesItem_110 k_iconst_0 ?_
                  have hres := Option.some.inj h
                  subst hres
                  exact hRet 111 nz0 _ _ _ hP hD hS dX6_takesItem_111
                refine lv_tableOut (tgt := 110) hx hb dX6_takesItem_16 (by have e103 := lv_neT c16_0 (a := 103) (by decide); have e104 := lv_neT c16_1 (a := 104) (by decide); have e105 := lv_neT c16_h105 (a := 105) (by decide); have e106 := lv_neT c16_h106 (a := 106) (by decide); have e107 := lv_neT c16_h107 (a := 107) (by decide); have e108 := lv_neT c16_2 (a := 108) (by decide); have e109 := lv_neT c16_h109 (a := 109) (by decide); have e110 := lv_neT c16_h110 (a := 110) (by decide); have e111 := lv_neT c16_3 (a := 111) (by decide); have e112 := lv_neT c16_4 (a := 112) (by decide); have e113 := lv_neT c16_h113 (a := 113) (by decide); have e114 := lv_neT c16_5 (a := 114) (by decide);  omega) (by decide) ?_
                refine lv_iconst (v := (0 : Int32)) hx hb dX6_takesItem_110 k_iconst_0 ?_
                have hres := Option.some.inj h
                subst hres
                exact hRet 111 nz0 _ _ _ hP hD hS dX6_takesItem_111
  unfold m_X6_takesItem at h
  refine lv_aload_n hx hb dX6_takesItem_0 rfl (lv_at hl 0 rfl) ?_
  refine va_get (D := G) (ci := 6) (v := .int (vM 0 14)) (C := RX6) (T := TX6) (N := 29) hx hb hts fi_X6_takesItem_X6 hown hEN.1 hP 0 rfl rfl 14 (by decide) (hts (.fieldLink RX6 95 "HourWellModel" "token" "I") (List.mem_of_getElem? (i := 1) rfl)) (fun _ h9 => h9) rfl dX6_takesItem_1 ?_
  refine lv_iconst (v := (1 : Int32)) hx hb dX6_takesItem_4 k_iconst_1 ?_
  refine lv_icmp_ne (tgt := 15) hx hb dX6_takesItem_5 (by decide) (fun c5 => ?_) (fun c5 => ?_)
  · have h := (if_neg c5).symm.trans h
    refine lv_iconst (v := (0 : Int32)) hx hb dX6_takesItem_15 k_iconst_0 ?_
    exact j16 vM (0 : Int32) h _ _ _ hP hD hS (lv_sub hl [0] rfl)
  · have h := (if_pos c5).symm.trans h
    refine lv_aload_n hx hb dX6_takesItem_8 rfl (lv_at hl 0 rfl) ?_
    refine va_get (D := G) (ci := 6) (v := .int (vM 0 15)) (C := RX6) (T := TX6) (N := 29) hx hb hts fi_X6_takesItem_X6 hown hEN.1 hP 0 rfl rfl 15 (by decide) (hts (.fieldLink RX6 98 "HourWellModel" "value" "I") (List.mem_of_getElem? (i := 2) rfl)) (fun _ h9 => h9) rfl dX6_takesItem_9 ?_
    refine lv_goto (tgt := 16) hx hb dX6_takesItem_12 (by decide) ?_
    exact j16 vM (vM 0 15) h _ _ _ hP hD hS (lv_sub hl [0] rfl)
