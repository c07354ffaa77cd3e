abbrev rm_X6_waitsOn : Room := { frames := 2, cells := 0, slots := 0, locals := 44 }
theorem fi_X6_waitsOn_X6 : ∀ w ∈ wsX60, w ∈ wsX6_waitsOn := fun _ h => List.mem_cons_of_mem _ (List.mem_append_right _ h)
theorem hdV_X6_waitsOn : yX6_waitsOn.cls = RX6 ∧ yX6_waitsOn.cls ≠ "java/lang/invoke/MethodHandle" ∧ yX6_waitsOn.cls ≠ "java/lang/invoke/VarHandle" ∧ (parseMethodDescriptor yX6_waitsOn.desc).map (fun d => d.parameters.length) = some 4 := by decide +kernel
set_option maxRecDepth 100000 in
set_option maxHeartbeats 4000000 in
theorem c_X6_waitsOn (l : Launch) (G : va_G) (cI cZ : ClassId) (aM : Nat → Nat) (vT : Int64) (vM : Ob) (x1 : Int32) (x2 : Int32) (x3 : Int32) (x4 : Int32) (res : Int32) (h : m_X6_waitsOn vM x1 x2 x3 x4 = some res) : Ct l yX6_waitsOn wsX6_waitsOn rm_X6_waitsOn G cI cZ [.ref (aM 0), .int x1, .int x2, .int x3, .int x4] [oX6 aM vM vT, ai cI (aM 18) 427 (vM 18)] (some (.int res)) [oX6 aM vM vT, ai cI (aM 18) 427 (vM 18)] := by
  refine Ct.of_z (maxL := 5) (by decide) rfl (Nat.le_of_ble_eq_true rfl) ?_
  intro p e s m below meth c args hx hb hml hown hts A hA hEN hP hD hS Q hRet ls hl
  have hown : s.vm.findClass RX6 = some m.cls := hown
  have hl : lv_has ls 5 [(0, .ref (aM 0)), (1, .int x1), (2, .int x2), (3, .int x3), (4, .int x4)] := hl
  unfold m_X6_waitsOn at h
  refine lv_iload_n hx hb dX6_waitsOn_0 rfl (lv_at hl 1 rfl) ?_
  refine lv_iload hx hb dX6_waitsOn_1 (lv_at hl 4 rfl) ?_
  refine lv_icmp_ge (tgt := 22) hx hb dX6_waitsOn_3 (by decide) (fun c3 => ?_) (fun c3 => ?_)
  · have h := (if_pos c3).symm.trans h
    refine lv_iconst (v := (0 : Int32)) hx hb dX6_waitsOn_22 k_iconst_0 ?_
    have hres := Option.some.inj h
    subst hres
    exact hRet 23 nz0 _ _ _ hP hD hS dX6_waitsOn_23
  · have h := (if_neg c3).symm.trans h
    refine lv_aload_n hx hb dX6_waitsOn_6 rfl (lv_at hl 0 rfl) ?_
    refine lv_iload_n hx hb dX6_waitsOn_7 rfl (lv_at hl 1 rfl) ?_
    refine lv_iconst (v := (1 : Int32)) hx hb dX6_waitsOn_8 k_iconst_1 ?_
    refine lv_iadd hx hb dX6_waitsOn_9 ?_
    refine lv_iload_n hx hb dX6_waitsOn_10 rfl (lv_at hl 2 rfl) ?_
    refine lv_iload_n hx hb dX6_waitsOn_11 rfl (lv_at hl 3 rfl) ?_
    obtain ⟨o12, ho12, h⟩ := bnd_some h
    refine call_V0 (As := [.int (x1 + (1 : Int32)), .int x2, .int x3]) (rest := []) ⟨hx, hb, hml, hown, hts⟩ (c_X6_canBe l G cI cZ aM vT vM (x1 + (1 : Int32)) x2 x3 o12 ho12) (cwV 3 hts gX6_waitsOn_X6_canBe rfl rfl rfl hdV_X6_canBe ⟨Nat.le_of_ble_eq_true rfl, Nat.le_of_ble_eq_true rfl⟩) hEN hA hP hD hS [0, 1] rfl (by decide) 0 rfl rfl rfl hl.1 rfl (Nat.le_of_ble_eq_true rfl) dX6_waitsOn_12 ⟨Nat.le_of_ble_eq_true rfl, Nat.le_of_ble_eq_true rfl⟩ (fun H locs hP hS => ?_)
    refine lv_if_eq (tgt := 22) hx hb dX6_waitsOn_15 (by decide) (fun c15 => ?_) (fun c15 => ?_)
    · have h := (if_pos c15).symm.trans h
      refine lv_iconst (v := (0 : Int32)) hx hb dX6_waitsOn_22 k_iconst_0 ?_
      have hres := Option.some.inj h
      subst hres
      exact hRet 23 nz0 _ _ _ hP hD hS dX6_waitsOn_23
    · have h := (if_neg c15).symm.trans h
      refine lv_iconst (v := (1 : Int32)) hx hb dX6_waitsOn_18 k_iconst_1 ?_
      refine lv_goto (tgt := 23) hx hb dX6_waitsOn_19 (by decide) ?_
      have hres := Option.some.inj h
      subst hres
      exact hRet 23 nz1 _ _ _ hP hD hS dX6_waitsOn_23
abbrev rm_X6_goesOn : Room := { frames := 3, cells := 0, slots := 0, locals := 75 }
theorem fi_X6_goesOn_X6 : ∀ w ∈ wsX60, w ∈ wsX6_goesOn := fun _ h => List.mem_cons_of_mem _ (List.mem_append_right _ h)
theorem hdV_X6_goesOn : yX6_goesOn.cls = RX6 ∧ yX6_goesOn.cls ≠ "java/lang/invoke/MethodHandle" ∧ yX6_goesOn.cls ≠ "java/lang/invoke/VarHandle" ∧ (parseMethodDescriptor yX6_goesOn.desc).map (fun d => d.parameters.length) = some 4 := by decide +kernel
set_option maxRecDepth 100000 in
set_option maxHeartbeats 4000000 in
theorem c_X6_goesOn (l : Launch) (G : va_G) (cI cZ : ClassId) (aM : Nat → Nat) (vT : Int64) (vM : Ob) (x1 : Int32) (x2 : Int32) (x3 : Int32) (x4 : Int32) (res : Int32) (h : m_X6_goesOn vM x1 x2 x3 x4 = some res) : Ct l yX6_goesOn wsX6_goesOn rm_X6_goesOn G cI cZ [.ref (aM 0), .int x1, .int x2, .int x3, .int x4] [oX6 aM vM vT, ai cI (aM 1) 70 (vM 1), ai cI (aM 3) 40 (vM 3), ai cI (aM 18) 427 (vM 18)] (some (.int res)) [oX6 aM vM vT, ai cI (aM 1) 70 (vM 1), ai cI (aM 3) 40 (vM 3), ai cI (aM 18) 427 (vM 18)] := by
  refine Ct.of_z (maxL := 7) (by decide) rfl (Nat.le_of_ble_eq_true rfl) ?_
  intro p e s m below meth c args hx hb hml hown hts A hA hEN hP hD hS Q hRet ls hl
  have hown : s.vm.findClass RX6 = some m.cls := hown
  have hl : lv_has ls 7 [(0, .ref (aM 0)), (1, .int x1), (2, .int x2), (3, .int x3), (4, .int x4)] := hl
  have L14 : ∀ (out : Int32 × Int32 × Int32 × Int32), (∀ ex : Int32 × Int32 × Int32 × Int32, out = ex → ∀ (H : Heap) (locs : List Loc) (ls : Array Slot), va_P G vwCl [oX6 aM vM vT, ai cI (aM 1) 70 (vM 1), ai cI (aM 3) 40 (vM 3), ai cI (aM 18) 427 (vM 18)] H → va_D A [oX6 aM vM vT, ai cI (aM 1) 70 (vM 1), ai cI (aM 3) 40 (vM 3), ai cI (aM 18) 427 (vM 18)] → va_S A s.heap H locs → lv_has ls 7 [(0, .ref (aM 0)), (1, .int ex.1), (2, .int ex.2.1), (3, .int ex.2.2.1), (5, .int ex.2.2.2)] → W p l e rm_X6_goesOn s m args below meth c H locs 0 0 Q (F0 m 49 ls [])) → ∀ (n : Nat) (x1 : Int32) (x2 : Int32) (x3 : Int32) (x4 : Int32) (x5 : Int32) (x6 : Int32), m_X6_goesOn_L14 vM n x1 x2 x3 x4 x5 x6 = some out → ∀ (H : Heap) (locs : List Loc) (ls : Array Slot), va_P G vwCl [oX6 aM vM vT, ai cI (aM 1) 70 (vM 1), ai cI (aM 3) 40 (vM 3), ai cI (aM 18) 427 (vM 18)] H → va_D A [oX6 aM vM vT, ai cI (aM 1) 70 (vM 1), ai cI (aM 3) 40 (vM 3), ai cI (aM 18) 427 (vM 18)] → va_S A s.heap H locs → lv_has ls 7 [(0, .ref (aM 0)), (1, .int x1), (2, .int x2), (3, .int x3), (4, .int x4), (5, .int x5), (6, .int x6)] → W p l e rm_X6_goesOn s m args below meth c H locs 0 0 Q (F0 m 14 ls []) := by
    intro out hKx
    intro n
    induction n with
    | zero => intro x1 x2 x3 x4 x5 x6 h; exact nomatch (show (none : Option (Int32 × Int32 × Int32 × Int32)) = some out from h)
    | succ n hrc =>
      intro x1 x2 x3 x4 x5 x6 h H locs ls hP hD hS hl
      have h : m_X6_goesOn_L14B vM (m_X6_goesOn_L14 vM n) x1 x2 x3 x4 x5 x6 = some out := h
      generalize m_X6_goesOn_L14 vM n = rc at h hrc
      unfold m_X6_goesOn_L14B at h
      refine lv_iload hx hb dX6_goesOn_14 (lv_at hl 6 rfl) ?_
      refine lv_aload_n hx hb dX6_goesOn_16 rfl (lv_at hl 0 rfl) ?_
      refine va_get (D := G) (ci := 6) (v := .ref (aM 1)) (C := RX6) (T := TX6) (N := 29) hx hb hts fi_X6_goesOn_X6 hown hEN.1 hP 0 rfl rfl 0 (by decide) (hts (.fieldLink RX6 7 "HourWellModel" "tale" "[I") (List.mem_of_getElem? (i := 1) rfl)) (fun _ h9 => h9) rfl dX6_goesOn_17 ?_
      refine lv_iconst (v := (1 : Int32)) hx hb dX6_goesOn_20 k_iconst_1 ?_
      refine va_iald (f := (vM 1)) hx hb hEN.1 hP 1 0 rfl rfl (inb_in (i := (1 : Int32)) (n := 70) rfl) dX6_goesOn_21 ?_
      refine lv_icmp_ge (tgt := 49) hx hb dX6_goesOn_22 (by decide) (fun c22 => ?_) (fun c22 => ?_)
      · have h := (if_pos c22).symm.trans h
        exact hKx _ (Option.some.inj h).symm _ _ _ hP hD hS (lv_sub hl [0, 1, 2, 3, 5] rfl)
      · have h := (if_neg c22).symm.trans h
        refine lv_iload hx hb dX6_goesOn_25 (lv_at hl 5 rfl) ?_
        refine lv_if_ne (tgt := 49) hx hb dX6_goesOn_27 (by decide) (fun c27 => ?_) (fun c27 => ?_)
        · have h := (if_neg c27).symm.trans h
          exact hKx _ (Option.some.inj h).symm _ _ _ hP hD hS (lv_sub hl [0, 1, 2, 3, 5] rfl)
        · have h := (if_pos c27).symm.trans h
          refine lv_aload_n hx hb dX6_goesOn_30 rfl (lv_at hl 0 rfl) ?_
          refine lv_iload_n hx hb dX6_goesOn_31 rfl (lv_at hl 1 rfl) ?_
          refine lv_iload_n hx hb dX6_goesOn_32 rfl (lv_at hl 2 rfl) ?_
          refine lv_iload_n hx hb dX6_goesOn_33 rfl (lv_at hl 3 rfl) ?_
          refine lv_iload hx hb dX6_goesOn_34 (lv_at hl 6 rfl) ?_
          refine lv_iload hx hb dX6_goesOn_36 (lv_at hl 4 rfl) ?_
          obtain ⟨o38, ho38, h⟩ := bnd_some h
          refine call_V0 (As := [.int x1, .int x2, .int x3, .int x6, .int x4]) (rest := []) ⟨hx, hb, hml, hown, hts⟩ (c_X6_leads l G cI cZ aM vT vM x1 x2 x3 x6 x4 o38 ho38) (cwV 5 hts gX6_goesOn_X6_leads rfl rfl rfl hdV_X6_leads ⟨Nat.le_of_ble_eq_true rfl, Nat.le_of_ble_eq_true rfl⟩) hEN hA hP hD hS [0, 1, 2, 3] rfl (by decide) 0 rfl rfl rfl hl.1 rfl (Nat.le_of_ble_eq_true rfl) dX6_goesOn_38 ⟨Nat.le_of_ble_eq_true rfl, Nat.le_of_ble_eq_true rfl⟩ (fun H locs hP hS => ?_)
          refine lv_istore (lv' := [(5, .int o38), (0, .ref (aM 0)), (1, .int x1), (2, .int x2), (3, .int x3), (4, .int x4), (6, .int x6)]) hx hb dX6_goesOn_41 hl (by decide) rfl (fun ls hl => ?_)
          refine lv_iinc (v := (x6 + (1 : Int32))) (lv' := [(6, .int (x6 + (1 : Int32))), (5, .int o38), (0, .ref (aM 0)), (1, .int x1), (2, .int x2), (3, .int x3), (4, .int x4)]) hx hb dX6_goesOn_43 hl (k := 6) rfl (congrArg (fun z => x6 + z) k_iconst_1) (by decide) rfl (fun ls hl => ?_)
          refine lv_goto (tgt := 14) hx hb dX6_goesOn_46 (by decide) ?_
          exact hrc x1 x2 x3 x4 o38 (x6 + (1 : Int32)) h _ _ _ hP hD hS (lv_sub hl [2, 3, 4, 5, 6, 1, 0] rfl)
  have L52 : ∀ (out : Int32), (∀ ex : Int32, out = ex → ∀ (H : Heap) (locs : List Loc) (ls : Array Slot), va_P G vwCl [oX6 aM vM vT, ai cI (aM 1) 70 (vM 1), ai cI (aM 3) 40 (vM 3), ai cI (aM 18) 427 (vM 18)] H → va_D A [oX6 aM vM vT, ai cI (aM 1) 70 (vM 1), ai cI (aM 3) 40 (vM 3), ai cI (aM 18) 427 (vM 18)] → va_S A s.heap H locs → lv_has ls 7 [(5, .int ex)] → W p l e rm_X6_goesOn s m args below meth c H locs 0 0 Q (F0 m 85 ls [])) → ∀ (n : Nat) (x1 : Int32) (x2 : Int32) (x3 : Int32) (x5 : Int32) (x6 : Int32), m_X6_goesOn_L52 vM n x1 x2 x3 x5 x6 = some out → ∀ (H : Heap) (locs : List Loc) (ls : Array Slot), va_P G vwCl [oX6 aM vM vT, ai cI (aM 1) 70 (vM 1), ai cI (aM 3) 40 (vM 3), ai cI (aM 18) 427 (vM 18)] H → va_D A [oX6 aM vM vT, ai cI (aM 1) 70 (vM 1), ai cI (aM 3) 40 (vM 3), ai cI (aM 18) 427 (vM 18)] → va_S A s.heap H locs → lv_has ls 7 [(0, .ref (aM 0)), (1, .int x1), (2, .int x2), (3, .int x3), (5, .int x5), (6, .int x6)] → W p l e rm_X6_goesOn s m args below meth c H locs 0 0 Q (F0 m 52 ls []) := by
    intro out hKx
    intro n
    induction n with
    | zero => intro x1 x2 x3 x5 x6 h; exact nomatch (show (none : Option (Int32)) = some out from h)
    | succ n hrc =>
      intro x1 x2 x3 x5 x6 h H locs ls hP hD hS hl
      have h : m_X6_goesOn_L52B vM (m_X6_goesOn_L52 vM n) x1 x2 x3 x5 x6 = some out := h
      generalize m_X6_goesOn_L52 vM n = rc at h hrc
      unfold m_X6_goesOn_L52B at h
      refine lv_iload hx hb dX6_goesOn_52 (lv_at hl 5 rfl) ?_
      refine lv_aload_n hx hb dX6_goesOn_54 rfl (lv_at hl 0 rfl) ?_
      refine va_get (D := G) (ci := 6) (v := .ref (aM 1)) (C := RX6) (T := TX6) (N := 29) hx hb hts fi_X6_goesOn_X6 hown hEN.1 hP 0 rfl rfl 0 (by decide) (hts (.fieldLink RX6 7 "HourWellModel" "tale" "[I") (List.mem_of_getElem? (i := 1) rfl)) (fun _ h9 => h9) rfl dX6_goesOn_55 ?_
      refine lv_iconst (v := (2 : Int32)) hx hb dX6_goesOn_58 k_iconst_2 ?_
      refine va_iald (f := (vM 1)) hx hb hEN.1 hP 1 0 rfl rfl (inb_in (i := (2 : Int32)) (n := 70) rfl) dX6_goesOn_59 ?_
      refine lv_icmp_ge (tgt := 85) hx hb dX6_goesOn_60 (by decide) (fun c60 => ?_) (fun c60 => ?_)
      · have h := (if_pos c60).symm.trans h
        exact hKx _ (Option.some.inj h).symm _ _ _ hP hD hS (lv_sub hl [4] rfl)
      · have h := (if_neg c60).symm.trans h
        refine lv_iload hx hb dX6_goesOn_63 (lv_at hl 4 rfl) ?_
        refine lv_if_ne (tgt := 85) hx hb dX6_goesOn_65 (by decide) (fun c65 => ?_) (fun c65 => ?_)
        · have h := (if_neg c65).symm.trans h
          exact hKx _ (Option.some.inj h).symm _ _ _ hP hD hS (lv_sub hl [4] rfl)
        · have h := (if_pos c65).symm.trans h
          refine lv_aload_n hx hb dX6_goesOn_68 rfl (lv_at hl 0 rfl) ?_
          refine lv_iload_n hx hb dX6_goesOn_69 rfl (lv_at hl 1 rfl) ?_
          refine lv_iload_n hx hb dX6_goesOn_70 rfl (lv_at hl 2 rfl) ?_
          refine lv_iload_n hx hb dX6_goesOn_71 rfl (lv_at hl 3 rfl) ?_
          refine lv_iload hx hb dX6_goesOn_72 (lv_at hl 5 rfl) ?_
          obtain ⟨o74, ho74, h⟩ := bnd_some h
          refine call_V0 (As := [.int x1, .int x2, .int x3, .int x6]) (rest := []) ⟨hx, hb, hml, hown, hts⟩ (c_X6_asksOn l G cI cZ aM vT vM x1 x2 x3 x6 o74 ho74) (cwV 4 hts gX6_goesOn_X6_asksOn rfl rfl rfl hdV_X6_asksOn ⟨Nat.le_of_ble_eq_true rfl, Nat.le_of_ble_eq_true rfl⟩) hEN hA hP hD hS [0, 1, 3] rfl (by decide) 0 rfl rfl rfl hl.1 rfl (Nat.le_of_ble_eq_true rfl) dX6_goesOn_74 ⟨Nat.le_of_ble_eq_true rfl, Nat.le_of_ble_eq_true rfl⟩ (fun H locs hP hS => ?_)
          refine lv_istore (lv' := [(5, .int o74), (0, .ref (aM 0)), (1, .int x1), (2, .int x2), (3, .int x3), (6, .int x6)]) hx hb dX6_goesOn_77 hl (by decide) rfl (fun ls hl => ?_)
          refine lv_iinc (v := (x6 + (1 : Int32))) (lv' := [(6, .int (x6 + (1 : Int32))), (5, .int o74), (0, .ref (aM 0)), (1, .int x1), (2, .int x2), (3, .int x3)]) hx hb dX6_goesOn_79 hl (k := 5) rfl (congrArg (fun z => x6 + z) k_iconst_1) (by decide) rfl (fun ls hl => ?_)
          refine lv_goto (tgt := 52) hx hb dX6_goesOn_82 (by decide) ?_
          exact hrc x1 x2 x3 o74 (x6 + (1 : Int32)) h _ _ _ hP hD hS (lv_sub hl [2, 3, 4, 5, 1, 0] rfl)
  unfold m_X6_goesOn at h
  refine lv_aload_n hx hb dX6_goesOn_0 rfl (lv_at hl 0 rfl) ?_
  refine lv_iload_n hx hb dX6_goesOn_1 rfl (lv_at hl 1 rfl) ?_
  refine lv_iload_n hx hb dX6_goesOn_2 rfl (lv_at hl 2 rfl) ?_
  refine lv_iload_n hx hb dX6_goesOn_3 rfl (lv_at hl 3 rfl) ?_
  refine lv_iload hx hb dX6_goesOn_4 (lv_at hl 4 rfl) ?_
  obtain ⟨o6, ho6, h⟩ := bnd_some h
  refine call_V0 (As := [.int x1, .int x2, .int x3, .int x4]) (rest := []) ⟨hx, hb, hml, hown, hts⟩ (c_X6_waitsOn l G cI cZ aM vT vM x1 x2 x3 x4 o6 ho6) (cwV 4 hts gX6_goesOn_X6_waitsOn rfl rfl rfl hdV_X6_waitsOn ⟨Nat.le_of_ble_eq_true rfl, Nat.le_of_ble_eq_true rfl⟩) hEN hA hP hD hS [0, 3] rfl (by decide) 0 rfl rfl rfl hl.1 rfl (Nat.le_of_ble_eq_true rfl) dX6_goesOn_6 ⟨Nat.le_of_ble_eq_true rfl, Nat.le_of_ble_eq_true rfl⟩ (fun H locs hP hS => ?_)
  refine lv_istore (lv' := [(5, .int o6), (0, .ref (aM 0)), (1, .int x1), (2, .int x2), (3, .int x3), (4, .int x4)]) hx hb dX6_goesOn_9 hl (by decide) rfl (fun ls hl => ?_)
  refine lv_iconst (v := (0 : Int32)) hx hb dX6_goesOn_11 k_iconst_0 ?_
  refine lv_istore (lv' := [(6, .int (0 : Int32)), (5, .int o6), (0, .ref (aM 0)), (1, .int x1), (2, .int x2), (3, .int x3), (4, .int x4)]) hx hb dX6_goesOn_12 hl (by decide) rfl (fun ls hl => ?_)
  obtain ⟨o14_1, ho14_1, h⟩ := bnd_some h
  refine L14 o14_1 (fun o14_1e er H locs ls hP hD hS hl => ?_) FU x1 x2 x3 x4 o6 (0 : Int32) ho14_1 _ _ _ hP hD hS (lv_sub hl [2, 3, 4, 5, 6, 1, 0] rfl)
  subst er
  refine lv_iconst (v := (0 : Int32)) hx hb dX6_goesOn_49 k_iconst_0 ?_
  refine lv_istore (lv' := [(6, .int (0 : Int32)), (0, .ref (aM 0)), (1, .int o14_1.1), (2, .int o14_1.2.1), (3, .int o14_1.2.2.1), (5, .int o14_1.2.2.2)]) hx hb dX6_goesOn_50 hl (by decide) rfl (fun ls hl => ?_)
  obtain ⟨o52_2, ho52_2, h⟩ := bnd_some h
  refine L52 o52_2 (fun o52_2e er H locs ls hP hD hS hl => ?_) FU o14_1.1 o14_1.2.1 o14_1.2.2.1 o14_1.2.2.2 (0 : Int32) ho52_2 _ _ _ hP hD hS (lv_sub hl [1, 2, 3, 4, 5, 0] rfl)
  subst er
  refine lv_iload hx hb dX6_goesOn_85 (lv_at hl 0 rfl) ?_
  obtain ⟨hg87, h⟩ := grd_some h
  have hres := Option.some.inj h
  subst hres
  exact hRet 87 (bz_n hg87) _ _ _ hP hD hS dX6_goesOn_87
abbrev rm_X6_layWays : Room := { frames := 4, cells := 0, slots := 0, locals := 101 }
theorem fi_X6_layWays_X6 : ∀ w ∈ wsX60, w ∈ wsX6_layWays := fun _ h => List.mem_cons_of_mem _ (List.mem_append_right _ h)
theorem hdV_X6_layWays : yX6_layWays.cls = RX6 ∧ yX6_layWays.cls ≠ "java/lang/invoke/MethodHandle" ∧ yX6_layWays.cls ≠ "java/lang/invoke/VarHandle" ∧ (parseMethodDescriptor yX6_layWays.desc).map (fun d => d.parameters.length) = some 2 := by decide +kernel
set_option maxRecDepth 100000 in
set_option maxHeartbeats 4000000 in
theorem c_X6_layWays (l : Launch) (G : va_G) (cI cZ : ClassId) (aM : Nat → Nat) (vT : Int64) (vM : Ob) (x1 : Int32) (x2 : Int32) (res : Ob) (h : m_X6_layWays vM x1 x2 = some res) : Ct l yX6_layWays wsX6_layWays rm_X6_layWays G cI cZ [.ref (aM 0), .int x1, .int x2] [oX6 aM vM vT, ai cI (aM 1) 70 (vM 1), ai cI (aM 2) 70 (vM 2), ai cI (aM 3) 40 (vM 3), ai cI (aM 4) 80 (vM 4), ai cZ (aM 5) 2 (vM 5), ai cI (aM 6) 200 (vM 6), ai cI (aM 8) 12 (vM 8), ai cI (aM 10) 12 (vM 10), ai cI (aM 18) 427 (vM 18), ai cI (aM 21) 100 (vM 21), ai cI (aM 23) 100 (vM 23), ai cI (aM 24) 100 (vM 24), ai cI (aM 26) 7 (vM 26), ai cI (aM 27) 5 (vM 27), ai cI (aM 28) 64 (vM 28)] none [oX6 aM res vT, ai cI (aM 1) 70 (res 1), ai cI (aM 2) 70 (res 2), ai cI (aM 3) 40 (res 3), ai cI (aM 4) 80 (res 4), ai cZ (aM 5) 2 (res 5), ai cI (aM 6) 200 (res 6), ai cI (aM 8) 12 (res 8), ai cI (aM 10) 12 (res 10), ai cI (aM 18) 427 (res 18), ai cI (aM 21) 100 (res 21), ai cI (aM 23) 100 (res 23), ai cI (aM 24) 100 (res 24), ai cI (aM 26) 7 (res 26), ai cI (aM 27) 5 (res 27), ai cI (aM 28) 64 (res 28)] := by
  refine Ct.of_v (maxL := 7) (by decide) rfl (Nat.le_of_ble_eq_true rfl) ?_
  intro p e s m below meth c args hx hb hml hown hts A hA hEN hP hD hS Q hRet ls hl
  have hown : s.vm.findClass RX6 = some m.cls := hown
  have hl : lv_has ls 7 [(0, .ref (aM 0)), (1, .int x1), (2, .int x2)] := hl
  have L37 : ∀ (out : Ob × Int32 × Int32 × Int32 × Int32), (∀ ex : Ob × Int32 × Int32 × Int32 × Int32, out = ex → ∀ (H : Heap) (locs : List Loc) (ls : Array Slot), va_P G vwCl [oX6 aM ex.1 vT, ai cI (aM 1) 70 (ex.1 1), ai cI (aM 2) 70 (ex.1 2), ai cI (aM 3) 40 (ex.1 3), ai cI (aM 4) 80 (ex.1 4), ai cZ (aM 5) 2 (ex.1 5), ai cI (aM 6) 200 (ex.1 6), ai cI (aM 8) 12 (ex.1 8), ai cI (aM 10) 12 (ex.1 10), ai cI (aM 18) 427 (ex.1 18), ai cI (aM 21) 100 (ex.1 21), ai cI (aM 23) 100 (ex.1 23), ai cI (aM 24) 100 (ex.1 24), ai cI (aM 26) 7 (ex.1 26), ai cI (aM 27) 5 (ex.1 27), ai cI (aM 28) 64 (ex.1 28)] H → va_D A [oX6 aM ex.1 vT, ai cI (aM 1) 70 (ex.1 1), ai cI (aM 2) 70 (ex.1 2), ai cI (aM 3) 40 (ex.1 3), ai cI (aM 4) 80 (ex.1 4), ai cZ (aM 5) 2 (ex.1 5), ai cI (aM 6) 200 (ex.1 6), ai cI (aM 8) 12 (ex.1 8), ai cI (aM 10) 12 (ex.1 10), ai cI (aM 18) 427 (ex.1 18), ai cI (aM 21) 100 (ex.1 21), ai cI (aM 23) 100 (ex.1 23), ai cI (aM 24) 100 (ex.1 24), ai cI (aM 26) 7 (ex.1 26), ai cI (aM 27) 5 (ex.1 27), ai cI (aM 28) 64 (ex.1 28)] → va_S A s.heap H locs → lv_has ls 7 [(0, .ref (aM 0)), (1, .int ex.2.1), (2, .int ex.2.2.1), (3, .int ex.2.2.2.1), (4, .int ex.2.2.2.2)] → W p l e rm_X6_layWays s m args below meth c H locs 0 0 Q (F0 m 115 ls [])) → ∀ (n : Nat) (vM : Ob) (x1 : Int32) (x2 : Int32) (x3 : Int32) (x4 : Int32) (x5 : Int32), m_X6_layWays_L37  n vM x1 x2 x3 x4 x5 = some out → ∀ (H : Heap) (locs : List Loc) (ls : Array Slot), va_P G vwCl [oX6 aM vM vT, ai cI (aM 1) 70 (vM 1), ai cI (aM 2) 70 (vM 2), ai cI (aM 3) 40 (vM 3), ai cI (aM 4) 80 (vM 4), ai cZ (aM 5) 2 (vM 5), ai cI (aM 6) 200 (vM 6), ai cI (aM 8) 12 (vM 8), ai cI (aM 10) 12 (vM 10), ai cI (aM 18) 427 (vM 18), ai cI (aM 21) 100 (vM 21), ai cI (aM 23) 100 (vM 23), ai cI (aM 24) 100 (vM 24), ai cI (aM 26) 7 (vM 26), ai cI (aM 27) 5 (vM 27), ai cI (aM 28) 64 (vM 28)] H → va_D A [oX6 aM vM vT, ai cI (aM 1) 70 (vM 1), ai cI (aM 2) 70 (vM 2), ai cI (aM 3) 40 (vM 3), ai cI (aM 4) 80 (vM 4), ai cZ (aM 5) 2 (vM 5), ai cI (aM 6) 200 (vM 6), ai cI (aM 8) 12 (vM 8), ai cI (aM 10) 12 (vM 10), ai cI (aM 18) 427 (vM 18), ai cI (aM 21) 100 (vM 21), ai cI (aM 23) 100 (vM 23), ai cI (aM 24) 100 (vM 24), ai cI (aM 26) 7 (vM 26), ai cI (aM 27) 5 (vM 27), ai cI (aM 28) 64 (vM 28)] → va_S A s.heap H locs → lv_has ls 7 [(0, .ref (aM 0)), (1, .int x1), (2, .int x2), (3, .int x3), (4, .int x4), (5, .int x5)] → W p l e rm_X6_layWays s m args below meth c H locs 0 0 Q (F0 m 37 ls []) := by
    intro out hKx
    have j107 : ∀ (rc : Ob → Int32 → Int32 → Int32 → Int32 → Int32 → Option (Ob × Int32 × Int32 × Int32 × Int32)), (∀ (vM : Ob) (x1 : Int32) (x2 : Int32) (x3 : Int32) (x4 : Int32) (x5 : Int32), rc vM x1 x2 x3 x4 x5 = some out → ∀ (H : Heap) (locs : List Loc) (ls : Array Slot), va_P G vwCl [oX6 aM vM vT, ai cI (aM 1) 70 (vM 1), ai cI (aM 2) 70 (vM 2), ai cI (aM 3) 40 (vM 3), ai cI (aM 4) 80 (vM 4), ai cZ (aM 5) 2 (vM 5), ai cI (aM 6) 200 (vM 6), ai cI (aM 8) 12 (vM 8), ai cI (aM 10) 12 (vM 10), ai cI (aM 18) 427 (vM 18), ai cI (aM 21) 100 (vM 21), ai cI (aM 23) 100 (vM 23), ai cI (aM 24) 100 (vM 24), ai cI (aM 26) 7 (vM 26), ai cI (aM 27) 5 (vM 27), ai cI (aM 28) 64 (vM 28)] H → va_D A [oX6 aM vM vT, ai cI (aM 1) 70 (vM 1), ai cI (aM 2) 70 (vM 2), ai cI (aM 3) 40 (vM 3), ai cI (aM 4) 80 (vM 4), ai cZ (aM 5) 2 (vM 5), ai cI (aM 6) 200 (vM 6), ai cI (aM 8) 12 (vM 8), ai cI (aM 10) 12 (vM 10), ai cI (aM 18) 427 (vM 18), ai cI (aM 21) 100 (vM 21), ai cI (aM 23) 100 (vM 23), ai cI (aM 24) 100 (vM 24), ai cI (aM 26) 7 (vM 26), ai cI (aM 27) 5 (vM 27), ai cI (aM 28) 64 (vM 28)] → va_S A s.heap H locs → lv_has ls 7 [(0, .ref (aM 0)), (1, .int x1), (2, .int x2), (3, .int x3), (4, .int x4), (5, .int x5)] → W p l e rm_X6_layWays s m args below meth c H locs 0 0 Q (F0 m 37 ls [])) → ∀ (vM : Ob) (x1 : Int32) (x2 : Int32) (x3 : Int32) (x4 : Int32) (x5 : Int32) (s1 : Int32) (s2 : Int32) (s3 : Int32), m_X6_layWays_j107  rc vM x1 x2 x3 x4 x5 s1 s2 s3 = some out → ∀ (H : Heap) (locs : List Loc) (ls : Array Slot), va_P G vwCl [oX6 aM vM vT, ai cI (aM 1) 70 (vM 1), ai cI (aM 2) 70 (vM 2), ai cI (aM 3) 40 (vM 3), ai cI (aM 4) 80 (vM 4), ai cZ (aM 5) 2 (vM 5), ai cI (aM 6) 200 (vM 6), ai cI (aM 8) 12 (vM 8), ai cI (aM 10) 12 (vM 10), ai cI (aM 18) 427 (vM 18), ai cI (aM 21) 100 (vM 21), ai cI (aM 23) 100 (vM 23), ai cI (aM 24) 100 (vM 24), ai cI (aM 26) 7 (vM 26), ai cI (aM 27) 5 (vM 27), ai cI (aM 28) 64 (vM 28)] H → va_D A [oX6 aM vM vT, ai cI (aM 1) 70 (vM 1), ai cI (aM 2) 70 (vM 2), ai cI (aM 3) 40 (vM 3), ai cI (aM 4) 80 (vM 4), ai cZ (aM 5) 2 (vM 5), ai cI (aM 6) 200 (vM 6), ai cI (aM 8) 12 (vM 8), ai cI (aM 10) 12 (vM 10), ai cI (aM 18) 427 (vM 18), ai cI (aM 21) 100 (vM 21), ai cI (aM 23) 100 (vM 23), ai cI (aM 24) 100 (vM 24), ai cI (aM 26) 7 (vM 26), ai cI (aM 27) 5 (vM 27), ai cI (aM 28) 64 (vM 28)] → va_S A s.heap H locs → lv_has ls 7 [(0, .ref (aM 0)), (1, .int x1), (2, .int x2), (3, .int x3), (4, .int x4), (5, .int x5)] → W p l e rm_X6_layWays s m args below meth c H locs 0 0 Q (F0 m 107 ls [.int s3, .int s2, .int s1, .ref (aM 18)]) := by
      intro rc hrc vM x1 x2 x3 x4 x5 s1 s2 s3 h H locs ls hP hD hS hl
      unfold m_X6_layWays_j107 at h
      refine lv_ior hx hb dX6_layWays_107 ?_
      obtain ⟨hg108, h⟩ := grd_some h
      refine va_iast (f := (vM 18)) hx hb hEN.1 hP hD hS 9 0 rfl rfl (inb_in hg108) dX6_layWays_108 (fun H locs hP hD hS => ?_)
      have hP : va_P G vwCl [oX6 aM vM vT, ai cI (aM 1) 70 (vM 1), ai cI (aM 2) 70 (vM 2), ai cI (aM 3) 40 (vM 3), ai cI (aM 4) 80 (vM 4), ai cZ (aM 5) 2 (vM 5), ai cI (aM 6) 200 (vM 6), ai cI (aM 8) 12 (vM 8), ai cI (aM 10) 12 (vM 10), ai cI (aM 18) 427 (upd (vM 18) (Int32.toNatClampNeg s1) (s2 ||| s3)), ai cI (aM 21) 100 (vM 21), ai cI (aM 23) 100 (vM 23), ai cI (aM 24) 100 (vM 24), ai cI (aM 26) 7 (vM 26), ai cI (aM 27) 5 (vM 27), ai cI (aM 28) 64 (vM 28)] H := hP
      have hD : va_D A [oX6 aM vM vT, ai cI (aM 1) 70 (vM 1), ai cI (aM 2) 70 (vM 2), ai cI (aM 3) 40 (vM 3), ai cI (aM 4) 80 (vM 4), ai cZ (aM 5) 2 (vM 5), ai cI (aM 6) 200 (vM 6), ai cI (aM 8) 12 (vM 8), ai cI (aM 10) 12 (vM 10), ai cI (aM 18) 427 (upd (vM 18) (Int32.toNatClampNeg s1) (s2 ||| s3)), ai cI (aM 21) 100 (vM 21), ai cI (aM 23) 100 (vM 23), ai cI (aM 24) 100 (vM 24), ai cI (aM 26) 7 (vM 26), ai cI (aM 27) 5 (vM 27), ai cI (aM 28) 64 (vM 28)] := hD
      refine lv_iinc (v := (x5 + (-1 : Int32))) (lv' := [(5, .int (x5 + (-1 : Int32))), (0, .ref (aM 0)), (1, .int x1), (2, .int x2), (3, .int x3), (4, .int x4)]) hx hb dX6_layWays_109 hl (k := 5) rfl (congrArg (fun z => x5 + z) k_iconst_n1) (by decide) rfl (fun ls hl => ?_)
      refine lv_goto (tgt := 37) hx hb dX6_layWays_112 (by decide) ?_
      exact hrc (st vM 18 (Int32.toNatClampNeg s1) (s2 ||| s3)) x1 x2 x3 x4 (x5 + (-1 : Int32)) h _ _ _ hP hD hS (lv_sub hl [1, 2, 3, 4, 5, 0] rfl)
    have j99 : ∀ (rc : Ob → Int32 → Int32 → Int32 → Int32 → Int32 → Option (Ob × Int32 × Int32 × Int32 × Int32)), (∀ (vM : Ob) (x1 : Int32) (x2 : Int32) (x3 : Int32) (x4 : Int32) (x5 : Int32), rc vM x1 x2 x3 x4 x5 = some out → ∀ (H : Heap) (locs : List Loc) (ls : Array Slot), va_P G vwCl [oX6 aM vM vT, ai cI (aM 1) 70 (vM 1), ai cI (aM 2) 70 (vM 2), ai cI (aM 3) 40 (vM 3), ai cI (aM 4) 80 (vM 4), ai cZ (aM 5) 2 (vM 5), ai cI (aM 6) 200 (vM 6), ai cI (aM 8) 12 (vM 8), ai cI (aM 10) 12 (vM 10), ai cI (aM 18) 427 (vM 18), ai cI (aM 21) 100 (vM 21), ai cI (aM 23) 100 (vM 23), ai cI (aM 24) 100 (vM 24), ai cI (aM 26) 7 (vM 26), ai cI (aM 27) 5 (vM 27), ai cI (aM 28) 64 (vM 28)] H → va_D A [oX6 aM vM vT, ai cI (aM 1) 70 (vM 1), ai cI (aM 2) 70 (vM 2), ai cI (aM 3) 40 (vM 3), ai cI (aM 4) 80 (vM 4), ai cZ (aM 5) 2 (vM 5), ai cI (aM 6) 200 (vM 6), ai cI (aM 8) 12 (vM 8), ai cI (aM 10) 12 (vM 10), ai cI (aM 18) 427 (vM 18), ai cI (aM 21) 100 (vM 21), ai cI (aM 23) 100 (vM 23), ai cI (aM 24) 100 (vM 24), ai cI (aM 26) 7 (vM 26), ai cI (aM 27) 5 (vM 27), ai cI (aM 28) 64 (vM 28)] → va_S A s.heap H locs → lv_has ls 7 [(0, .ref (aM 0)), (1, .int x1), (2, .int x2), (3, .int x3), (4, .int x4), (5, .int x5)] → W p l e rm_X6_layWays s m args below meth c H locs 0 0 Q (F0 m 37 ls [])) → ∀ (vM : Ob) (x1 : Int32) (x2 : Int32) (x3 : Int32) (x4 : Int32) (x5 : Int32) (s1 : Int32) (s2 : Int32), m_X6_layWays_j99  rc vM x1 x2 x3 x4 x5 s1 s2 = some out → ∀ (H : Heap) (locs : List Loc) (ls : Array Slot), va_P G vwCl [oX6 aM vM vT, ai cI (aM 1) 70 (vM 1), ai cI (aM 2) 70 (vM 2), ai cI (aM 3) 40 (vM 3), ai cI (aM 4) 80 (vM 4), ai cZ (aM 5) 2 (vM 5), ai cI (aM 6) 200 (vM 6), ai cI (aM 8) 12 (vM 8), ai cI (aM 10) 12 (vM 10), ai cI (aM 18) 427 (vM 18), ai cI (aM 21) 100 (vM 21), ai cI (aM 23) 100 (vM 23), ai cI (aM 24) 100 (vM 24), ai cI (aM 26) 7 (vM 26), ai cI (aM 27) 5 (vM 27), ai cI (aM 28) 64 (vM 28)] H → va_D A [oX6 aM vM vT, ai cI (aM 1) 70 (vM 1), ai cI (aM 2) 70 (vM 2), ai cI (aM 3) 40 (vM 3), ai cI (aM 4) 80 (vM 4), ai cZ (aM 5) 2 (vM 5), ai cI (aM 6) 200 (vM 6), ai cI (aM 8) 12 (vM 8), ai cI (aM 10) 12 (vM 10), ai cI (aM 18) 427 (vM 18), ai cI (aM 21) 100 (vM 21), ai cI (aM 23) 100 (vM 23), ai cI (aM 24) 100 (vM 24), ai cI (aM 26) 7 (vM 26), ai cI (aM 27) 5 (vM 27), ai cI (aM 28) 64 (vM 28)] → va_S A s.heap H locs → lv_has ls 7 [(0, .ref (aM 0)), (1, .int x1), (2, .int x2), (3, .int x3), (4, .int x4), (5, .int x5)] → W p l e rm_X6_layWays s m args below meth c H locs 0 0 Q (F0 m 99 ls [.int s2, .int s1, .ref (aM 18)]) := by
      intro rc hrc vM x1 x2 x3 x4 x5 s1 s2 h H locs ls hP hD hS hl
      unfold m_X6_layWays_j99 at h
      refine lv_iconst (v := (1 : Int32)) hx hb dX6_layWays_99 k_iconst_1 ?_
      refine lv_iload hx hb dX6_layWays_100 (lv_at hl 5 rfl) ?_
      refine lv_ishl hx hb dX6_layWays_102 ?_
      refine lv_goto (tgt := 107) hx hb dX6_layWays_103 (by decide) ?_
      exact j107 rc hrc vM x1 x2 x3 x4 x5 s1 s2 ((1 : Int32) <<< (x5 &&& 31)) h _ _ _ hP hD hS (lv_sub hl [0, 1, 2, 3, 4, 5] rfl)
    have j66 : ∀ (rc : Ob → Int32 → Int32 → Int32 → Int32 → Int32 → Option (Ob × Int32 × Int32 × Int32 × Int32)), (∀ (vM : Ob) (x1 : Int32) (x2 : Int32) (x3 : Int32) (x4 : Int32) (x5 : Int32), rc vM x1 x2 x3 x4 x5 = some out → ∀ (H : Heap) (locs : List Loc) (ls : Array Slot), va_P G vwCl [oX6 aM vM vT, ai cI (aM 1) 70 (vM 1), ai cI (aM 2) 70 (vM 2), ai cI (aM 3) 40 (vM 3), ai cI (aM 4) 80 (vM 4), ai cZ (aM 5) 2 (vM 5), ai cI (aM 6) 200 (vM 6), ai cI (aM 8) 12 (vM 8), ai cI (aM 10) 12 (vM 10), ai cI (aM 18) 427 (vM 18), ai cI (aM 21) 100 (vM 21), ai cI (aM 23) 100 (vM 23), ai cI (aM 24) 100 (vM 24), ai cI (aM 26) 7 (vM 26), ai cI (aM 27) 5 (vM 27), ai cI (aM 28) 64 (vM 28)] H → va_D A [oX6 aM vM vT, ai cI (aM 1) 70 (vM 1), ai cI (aM 2) 70 (vM 2), ai cI (aM 3) 40 (vM 3), ai cI (aM 4) 80 (vM 4), ai cZ (aM 5) 2 (vM 5), ai cI (aM 6) 200 (vM 6), ai cI (aM 8) 12 (vM 8), ai cI (aM 10) 12 (vM 10), ai cI (aM 18) 427 (vM 18), ai cI (aM 21) 100 (vM 21), ai cI (aM 23) 100 (vM 23), ai cI (aM 24) 100 (vM 24), ai cI (aM 26) 7 (vM 26), ai cI (aM 27) 5 (vM 27), ai cI (aM 28) 64 (vM 28)] → va_S A s.heap H locs → lv_has ls 7 [(0, .ref (aM 0)), (1, .int x1), (2, .int x2), (3, .int x3), (4, .int x4), (5, .int x5)] → W p l e rm_X6_layWays s m args below meth c H locs 0 0 Q (F0 m 37 ls [])) → ∀ (vM : Ob) (x1 : Int32) (x2 : Int32) (x3 : Int32) (x4 : Int32) (x5 : Int32) (s0 : Int32), m_X6_layWays_j66  rc vM x1 x2 x3 x4 x5 s0 = some out → ∀ (H : Heap) (locs : List Loc) (ls : Array Slot), va_P G vwCl [oX6 aM vM vT, ai cI (aM 1) 70 (vM 1), ai cI (aM 2) 70 (vM 2), ai cI (aM 3) 40 (vM 3), ai cI (aM 4) 80 (vM 4), ai cZ (aM 5) 2 (vM 5), ai cI (aM 6) 200 (vM 6), ai cI (aM 8) 12 (vM 8), ai cI (aM 10) 12 (vM 10), ai cI (aM 18) 427 (vM 18), ai cI (aM 21) 100 (vM 21), ai cI (aM 23) 100 (vM 23), ai cI (aM 24) 100 (vM 24), ai cI (aM 26) 7 (vM 26), ai cI (aM 27) 5 (vM 27), ai cI (aM 28) 64 (vM 28)] H → va_D A [oX6 aM vM vT, ai cI (aM 1) 70 (vM 1), ai cI (aM 2) 70 (vM 2), ai cI (aM 3) 40 (vM 3), ai cI (aM 4) 80 (vM 4), ai cZ (aM 5) 2 (vM 5), ai cI (aM 6) 200 (vM 6), ai cI (aM 8) 12 (vM 8), ai cI (aM 10) 12 (vM 10), ai cI (aM 18) 427 (vM 18), ai cI (aM 21) 100 (vM 21), ai cI (aM 23) 100 (vM 23), ai cI (aM 24) 100 (vM 24), ai cI (aM 26) 7 (vM 26), ai cI (aM 27) 5 (vM 27), ai cI (aM 28) 64 (vM 28)] → va_S A s.heap H locs → lv_has ls 7 [(0, .ref (aM 0)), (1, .int x1), (2, .int x2), (3, .int x3), (4, .int x4), (5, .int x5)] → W p l e rm_X6_layWays s m args below meth c H locs 0 0 Q (F0 m 66 ls [.int s0]) := by
      intro rc hrc vM x1 x2 x3 x4 x5 s0 h H locs ls hP hD hS hl
      unfold m_X6_layWays_j66 at h
      refine lv_istore (lv' := [(6, .int s0), (0, .ref (aM 0)), (1, .int x1), (2, .int x2), (3, .int x3), (4, .int x4), (5, .int x5)]) hx hb dX6_layWays_66 hl (by decide) rfl (fun ls hl => ?_)
      refine lv_aload_n hx hb dX6_layWays_68 rfl (lv_at hl 1 rfl) ?_
      refine va_get (D := G) (ci := 6) (v := .ref (aM 18)) (C := RX6) (T := TX6) (N := 29) hx hb hts fi_X6_layWays_X6 hown hEN.1 hP 0 rfl rfl 17 (by decide) (hts (.fieldLink RX6 35 "HourWellModel" "can" "[I") (List.mem_of_getElem? (i := 2) rfl)) (fun _ h9 => h9) rfl dX6_layWays_69 ?_
      refine lv_bipush (v := (7 : Int32)) hx hb dX6_layWays_72 k_bipush_7 ?_
      refine lv_iload_n hx hb dX6_layWays_74 rfl (lv_at hl 4 rfl) ?_
      refine lv_imul hx hb dX6_layWays_75 ?_
      refine lv_iload hx hb dX6_layWays_76 (lv_at hl 5 rfl) ?_
      refine lv_iadd hx hb dX6_layWays_78 ?_
      refine lv_dup2_11 hx hb dX6_layWays_79 rfl rfl ?_
      obtain ⟨hg80, h⟩ := grd_some h
      refine va_iald (f := (vM 18)) hx hb hEN.1 hP 9 0 rfl rfl (inb_in hg80) dX6_layWays_80 ?_
      refine lv_iload hx hb dX6_layWays_81 (lv_at hl 0 rfl) ?_
      refine lv_if_ne (tgt := 99) hx hb dX6_layWays_83 (by decide) (fun c83 => ?_) (fun c83 => ?_)
      · have h := (if_neg c83).symm.trans h
        exact j99 rc hrc vM x1 x2 x3 x4 x5 (((7 : Int32) * x3) + x4) ((vM 18) (Int32.toNatClampNeg (((7 : Int32) * x3) + x4))) h _ _ _ hP hD hS (lv_sub hl [1, 2, 3, 4, 5, 6] rfl)
      · have h := (if_pos c83).symm.trans h
        refine lv_aload_n hx hb dX6_layWays_86 rfl (lv_at hl 1 rfl) ?_
        refine lv_iload_n hx hb dX6_layWays_87 rfl (lv_at hl 4 rfl) ?_
        refine lv_iload hx hb dX6_layWays_88 (lv_at hl 5 rfl) ?_
        refine lv_iload hx hb dX6_layWays_90 (lv_at hl 6 rfl) ?_
        refine lv_iload_n hx hb dX6_layWays_92 rfl (lv_at hl 3 rfl) ?_
        obtain ⟨o93, ho93, h⟩ := bnd_some h
        refine call_V0 (As := [.int x3, .int x4, .int x5, .int x2]) (rest := [.int ((vM 18) (Int32.toNatClampNeg (((7 : Int32) * x3) + x4))), .int (((7 : Int32) * x3) + x4), .ref (aM 18)]) ⟨hx, hb, hml, hown, hts⟩ (c_X6_goesOn l G cI cZ aM vT vM x3 x4 x5 x2 o93 ho93) (cwV 4 hts gX6_layWays_X6_goesOn rfl rfl rfl hdV_X6_goesOn ⟨Nat.le_of_ble_eq_true rfl, Nat.le_of_ble_eq_true rfl⟩) hEN hA hP hD hS [0, 1, 3, 9] rfl (by decide) 0 rfl rfl rfl hl.1 rfl (Nat.le_of_ble_eq_true rfl) dX6_layWays_93 ⟨Nat.le_of_ble_eq_true rfl, Nat.le_of_ble_eq_true rfl⟩ (fun H locs hP hS => ?_)
        refine lv_if_eq (tgt := 106) hx hb dX6_layWays_96 (by decide) (fun c96 => ?_) (fun c96 => ?_)
        · have h := (if_pos c96).symm.trans h
          refine lv_iconst (v := (0 : Int32)) hx hb dX6_layWays_106 k_iconst_0 ?_
          exact j107 rc hrc vM x1 x2 x3 x4 x5 (((7 : Int32) * x3) + x4) ((vM 18) (Int32.toNatClampNeg (((7 : Int32) * x3) + x4))) (0 : Int32) h _ _ _ hP hD hS (lv_sub hl [1, 2, 3, 4, 5, 6] rfl)
        · have h := (if_neg c96).symm.trans h
          exact j99 rc hrc vM x1 x2 x3 x4 x5 (((7 : Int32) * x3) + x4) ((vM 18) (Int32.toNatClampNeg (((7 : Int32) * x3) + x4))) h _ _ _ hP hD hS (lv_sub hl [1, 2, 3, 4, 5, 6] rfl)
    have j65 : ∀ (rc : Ob → Int32 → Int32 → Int32 → Int32 → Int32 → Option (Ob × Int32 × Int32 × Int32 × Int32)), (∀ (vM : Ob) (x1 : Int32) (x2 : Int32) (x3 : Int32) (x4 : Int32) (x5 : Int32), rc vM x1 x2 x3 x4 x5 = some out → ∀ (H : Heap) (locs : List Loc) (ls : Array Slot), va_P G vwCl [oX6 aM vM vT, ai cI (aM 1) 70 (vM 1), ai cI (aM 2) 70 (vM 2), ai cI (aM 3) 40 (vM 3), ai cI (aM 4) 80 (vM 4), ai cZ (aM 5) 2 (vM 5), ai cI (aM 6) 200 (vM 6), ai cI (aM 8) 12 (vM 8), ai cI (aM 10) 12 (vM 10), ai cI (aM 18) 427 (vM 18), ai cI (aM 21) 100 (vM 21), ai cI (aM 23) 100 (vM 23), ai cI (aM 24) 100 (vM 24), ai cI (aM 26) 7 (vM 26), ai cI (aM 27) 5 (vM 27), ai cI (aM 28) 64 (vM 28)] H → va_D A [oX6 aM vM vT, ai cI (aM 1) 70 (vM 1), ai cI (aM 2) 70 (vM 2), ai cI (aM 3) 40 (vM 3), ai cI (aM 4) 80 (vM 4), ai cZ (aM 5) 2 (vM 5), ai cI (aM 6) 200 (vM 6), ai cI (aM 8) 12 (vM 8), ai cI (aM 10) 12 (vM 10), ai cI (aM 18) 427 (vM 18), ai cI (aM 21) 100 (vM 21), ai cI (aM 23) 100 (vM 23), ai cI (aM 24) 100 (vM 24), ai cI (aM 26) 7 (vM 26), ai cI (aM 27) 5 (vM 27), ai cI (aM 28) 64 (vM 28)] → va_S A s.heap H locs → lv_has ls 7 [(0, .ref (aM 0)), (1, .int x1), (2, .int x2), (3, .int x3), (4, .int x4), (5, .int x5)] → W p l e rm_X6_layWays s m args below meth c H locs 0 0 Q (F0 m 37 ls [])) → ∀ (vM : Ob) (x1 : Int32) (x2 : Int32) (x3 : Int32) (x4 : Int32) (x5 : Int32), m_X6_layWays_j65  rc vM x1 x2 x3 x4 x5 = some out → ∀ (H : Heap) (locs : List Loc) (ls : Array Slot), va_P G vwCl [oX6 aM vM vT, ai cI (aM 1) 70 (vM 1), ai cI (aM 2) 70 (vM 2), ai cI (aM 3) 40 (vM 3), ai cI (aM 4) 80 (vM 4), ai cZ (aM 5) 2 (vM 5), ai cI (aM 6) 200 (vM 6), ai cI (aM 8) 12 (vM 8), ai cI (aM 10) 12 (vM 10), ai cI (aM 18) 427 (vM 18), ai cI (aM 21) 100 (vM 21), ai cI (aM 23) 100 (vM 23), ai cI (aM 24) 100 (vM 24), ai cI (aM 26) 7 (vM 26), ai cI (aM 27) 5 (vM 27), ai cI (aM 28) 64 (vM 28)] H → va_D A [oX6 aM vM vT, ai cI (aM 1) 70 (vM 1), ai cI (aM 2) 70 (vM 2), ai cI (aM 3) 40 (vM 3), ai cI (aM 4) 80 (vM 4), ai cZ (aM 5) 2 (vM 5), ai cI (aM 6) 200 (vM 6), ai cI (aM 8) 12 (vM 8), ai cI (aM 10) 12 (vM 10), ai cI (aM 18) 427 (vM 18), ai cI (aM 21) 100 (vM 21), ai cI (aM 23) 100 (vM 23), ai cI (aM 24) 100 (vM 24), ai cI (aM 26) 7 (vM 26), ai cI (aM 27) 5 (vM 27), ai cI (aM 28) 64 (vM 28)] → va_S A s.heap H locs → lv_has ls 7 [(0, .ref (aM 0)), (1, .int x1), (2, .int x2), (3, .int x3), (4, .int x4), (5, .int x5)] → W p l e rm_X6_layWays s m args below meth c H locs 0 0 Q (F0 m 65 ls []) := by
      intro rc hrc vM x1 x2 x3 x4 x5 h H locs ls hP hD hS hl
      unfold m_X6_layWays_j65 at h
      refine lv_iconst (v := (0 : Int32)) hx hb dX6_layWays_65 k_iconst_0 ?_
      exact j66 rc hrc vM x1 x2 x3 x4 x5 (0 : Int32) h _ _ _ hP hD hS (lv_sub hl [0, 1, 2, 3, 4, 5] rfl)
    intro n
    induction n with
    | zero => intro vM x1 x2 x3 x4 x5 h; exact nomatch (show (none : Option (Ob × Int32 × Int32 × Int32 × Int32)) = some out from h)
    | succ n hrc =>
      intro vM x1 x2 x3 x4 x5 h H locs ls hP hD hS hl
      have h : m_X6_layWays_L37B  (m_X6_layWays_L37  n) vM x1 x2 x3 x4 x5 = some out := h
      generalize m_X6_layWays_L37  n = rc at h hrc
      unfold m_X6_layWays_L37B at h
      refine lv_iload hx hb dX6_layWays_37 (lv_at hl 5 rfl) ?_
      refine lv_if_lt (tgt := 115) hx hb dX6_layWays_39 (by decide) (fun c39 => ?_) (fun c39 => ?_)
      · have h := (if_pos c39).symm.trans h
        exact hKx _ (Option.some.inj h).symm _ _ _ hP hD hS (lv_sub hl [0, 1, 2, 3, 4] rfl)
      · have h := (if_neg c39).symm.trans h
        refine lv_iload_n hx hb dX6_layWays_42 rfl (lv_at hl 3 rfl) ?_
        refine lv_iload_n hx hb dX6_layWays_43 rfl (lv_at hl 2 rfl) ?_
        refine lv_icmp_ne (tgt := 65) hx hb dX6_layWays_44 (by decide) (fun c44 => ?_) (fun c44 => ?_)
        · have h := (if_neg c44).symm.trans h
          exact j65 rc hrc vM x1 x2 x3 x4 x5 h _ _ _ hP hD hS (lv_sub hl [0, 1, 2, 3, 4, 5] rfl)
        · have h := (if_pos c44).symm.trans h
          refine lv_iload hx hb dX6_layWays_47 (lv_at hl 4 rfl) ?_
          refine lv_if_ne (tgt := 65) hx hb dX6_layWays_49 (by decide) (fun c49 => ?_) (fun c49 => ?_)
          · have h := (if_neg c49).symm.trans h
            exact j65 rc hrc vM x1 x2 x3 x4 x5 h _ _ _ hP hD hS (lv_sub hl [0, 1, 2, 3, 4, 5] rfl)
          · have h := (if_pos c49).symm.trans h
            refine lv_iload hx hb dX6_layWays_52 (lv_at hl 5 rfl) ?_
            refine lv_iload_n hx hb dX6_layWays_54 rfl (lv_at hl 1 rfl) ?_
            obtain ⟨o55, ho55, h⟩ := bnd_some h
            refine call_S0 (As := [.int x5, .int x1]) (rest := []) ⟨hx, hb, hml, hown, hts⟩ (c_X6_holds l G cI cZ  x5 x1 o55 ho55) (va_cwS 2 hts gX6_layWays_X6_holds rfl rfl rfl hdS_X6_holds ⟨Nat.le_of_ble_eq_true rfl, Nat.le_of_ble_eq_true rfl⟩) hEN hA hP hD hS [] rfl (by decide) rfl hl.1 rfl (Nat.le_of_ble_eq_true rfl) dX6_layWays_55 ⟨Nat.le_of_ble_eq_true rfl, Nat.le_of_ble_eq_true rfl⟩ (fun H locs hP hS => ?_)
            refine lv_if_eq (tgt := 65) hx hb dX6_layWays_58 (by decide) (fun c58 => ?_) (fun c58 => ?_)
            · have h := (if_pos c58).symm.trans h
              exact j65 rc hrc vM x1 x2 x3 x4 x5 h _ _ _ hP hD hS (lv_sub hl [0, 1, 2, 3, 4, 5] rfl)
            · have h := (if_neg c58).symm.trans h
              refine lv_iconst (v := (1 : Int32)) hx hb dX6_layWays_61 k_iconst_1 ?_
              refine lv_goto (tgt := 66) hx hb dX6_layWays_62 (by decide) ?_
              exact j66 rc hrc vM x1 x2 x3 x4 x5 (1 : Int32) h _ _ _ hP hD hS (lv_sub hl [0, 1, 2, 3, 4, 5] rfl)
  have L9 : ∀ (out : Ob × Int32 × Int32 × Int32), (∀ ex : Ob × Int32 × Int32 × Int32, out = ex → ∀ (H : Heap) (locs : List Loc) (ls : Array Slot), va_P G vwCl [oX6 aM ex.1 vT, ai cI (aM 1) 70 (ex.1 1), ai cI (aM 2) 70 (ex.1 2), ai cI (aM 3) 40 (ex.1 3), ai cI (aM 4) 80 (ex.1 4), ai cZ (aM 5) 2 (ex.1 5), ai cI (aM 6) 200 (ex.1 6), ai cI (aM 8) 12 (ex.1 8), ai cI (aM 10) 12 (ex.1 10), ai cI (aM 18) 427 (ex.1 18), ai cI (aM 21) 100 (ex.1 21), ai cI (aM 23) 100 (ex.1 23), ai cI (aM 24) 100 (ex.1 24), ai cI (aM 26) 7 (ex.1 26), ai cI (aM 27) 5 (ex.1 27), ai cI (aM 28) 64 (ex.1 28)] H → va_D A [oX6 aM ex.1 vT, ai cI (aM 1) 70 (ex.1 1), ai cI (aM 2) 70 (ex.1 2), ai cI (aM 3) 40 (ex.1 3), ai cI (aM 4) 80 (ex.1 4), ai cZ (aM 5) 2 (ex.1 5), ai cI (aM 6) 200 (ex.1 6), ai cI (aM 8) 12 (ex.1 8), ai cI (aM 10) 12 (ex.1 10), ai cI (aM 18) 427 (ex.1 18), ai cI (aM 21) 100 (ex.1 21), ai cI (aM 23) 100 (ex.1 23), ai cI (aM 24) 100 (ex.1 24), ai cI (aM 26) 7 (ex.1 26), ai cI (aM 27) 5 (ex.1 27), ai cI (aM 28) 64 (ex.1 28)] → va_S A s.heap H locs → lv_has ls 7 [(0, .ref (aM 0)), (1, .int ex.2.1), (2, .int ex.2.2.1), (3, .int ex.2.2.2)] → W p l e rm_X6_layWays s m args below meth c H locs 0 0 Q (F0 m 121 ls [])) → ∀ (n : Nat) (vM : Ob) (x1 : Int32) (x2 : Int32) (x3 : Int32) (x4 : Int32), m_X6_layWays_L9  n vM x1 x2 x3 x4 = some out → ∀ (H : Heap) (locs : List Loc) (ls : Array Slot), va_P G vwCl [oX6 aM vM vT, ai cI (aM 1) 70 (vM 1), ai cI (aM 2) 70 (vM 2), ai cI (aM 3) 40 (vM 3), ai cI (aM 4) 80 (vM 4), ai cZ (aM 5) 2 (vM 5), ai cI (aM 6) 200 (vM 6), ai cI (aM 8) 12 (vM 8), ai cI (aM 10) 12 (vM 10), ai cI (aM 18) 427 (vM 18), ai cI (aM 21) 100 (vM 21), ai cI (aM 23) 100 (vM 23), ai cI (aM 24) 100 (vM 24), ai cI (aM 26) 7 (vM 26), ai cI (aM 27) 5 (vM 27), ai cI (aM 28) 64 (vM 28)] H → va_D A [oX6 aM vM vT, ai cI (aM 1) 70 (vM 1), ai cI (aM 2) 70 (vM 2), ai cI (aM 3) 40 (vM 3), ai cI (aM 4) 80 (vM 4), ai cZ (aM 5) 2 (vM 5), ai cI (aM 6) 200 (vM 6), ai cI (aM 8) 12 (vM 8), ai cI (aM 10) 12 (vM 10), ai cI (aM 18) 427 (vM 18), ai cI (aM 21) 100 (vM 21), ai cI (aM 23) 100 (vM 23), ai cI (aM 24) 100 (vM 24), ai cI (aM 26) 7 (vM 26), ai cI (aM 27) 5 (vM 27), ai cI (aM 28) 64 (vM 28)] → va_S A s.heap H locs → lv_has ls 7 [(0, .ref (aM 0)), (1, .int x1), (2, .int x2), (3, .int x3), (4, .int x4)] → W p l e rm_X6_layWays s m args below meth c H locs 0 0 Q (F0 m 9 ls []) := by
    intro out hKx
    intro n
    induction n with
    | zero => intro vM x1 x2 x3 x4 h; exact nomatch (show (none : Option (Ob × Int32 × Int32 × Int32)) = some out from h)
    | succ n hrc =>
      intro vM x1 x2 x3 x4 h H locs ls hP hD hS hl
      have h : m_X6_layWays_L9B  (m_X6_layWays_L9  n) vM x1 x2 x3 x4 = some out := h
      generalize m_X6_layWays_L9  n = rc at h hrc
      unfold m_X6_layWays_L9B at h
      refine lv_iload hx hb dX6_layWays_9 (lv_at hl 4 rfl) ?_
      refine lv_aload_n hx hb dX6_layWays_11 rfl (lv_at hl 0 rfl) ?_
      refine va_get (D := G) (ci := 6) (v := .ref (aM 1)) (C := RX6) (T := TX6) (N := 29) hx hb hts fi_X6_layWays_X6 hown hEN.1 hP 0 rfl rfl 0 (by decide) (hts (.fieldLink RX6 7 "HourWellModel" "tale" "[I") (List.mem_of_getElem? (i := 1) rfl)) (fun _ h9 => h9) rfl dX6_layWays_12 ?_
      refine lv_iconst (v := (0 : Int32)) hx hb dX6_layWays_15 k_iconst_0 ?_
      refine va_iald (f := (vM 1)) hx hb hEN.1 hP 1 0 rfl rfl (inb_in (i := (0 : Int32)) (n := 70) rfl) dX6_layWays_16 ?_
      refine lv_icmp_ge (tgt := 121) hx hb dX6_layWays_17 (by decide) (fun c17 => ?_) (fun c17 => ?_)
      · have h := (if_pos c17).symm.trans h
        exact hKx _ (Option.some.inj h).symm _ _ _ hP hD hS (lv_sub hl [0, 1, 2, 3] rfl)
      · have h := (if_neg c17).symm.trans h
        refine lv_aload_n hx hb dX6_layWays_20 rfl (lv_at hl 0 rfl) ?_
        refine va_get (D := G) (ci := 6) (v := .ref (aM 18)) (C := RX6) (T := TX6) (N := 29) hx hb hts fi_X6_layWays_X6 hown hEN.1 hP 0 rfl rfl 17 (by decide) (hts (.fieldLink RX6 35 "HourWellModel" "can" "[I") (List.mem_of_getElem? (i := 2) rfl)) (fun _ h9 => h9) rfl dX6_layWays_21 ?_
        refine lv_bipush (v := (7 : Int32)) hx hb dX6_layWays_24 k_bipush_7 ?_
        refine lv_iload_n hx hb dX6_layWays_26 rfl (lv_at hl 3 rfl) ?_
        refine lv_imul hx hb dX6_layWays_27 ?_
        refine lv_iload hx hb dX6_layWays_28 (lv_at hl 4 rfl) ?_
        refine lv_iadd hx hb dX6_layWays_30 ?_
        refine lv_iconst (v := (0 : Int32)) hx hb dX6_layWays_31 k_iconst_0 ?_
        obtain ⟨hg32, h⟩ := grd_some h
        refine va_iast (f := (vM 18)) hx hb hEN.1 hP hD hS 9 0 rfl rfl (inb_in hg32) dX6_layWays_32 (fun H locs hP hD hS => ?_)
        have hP : va_P G vwCl [oX6 aM vM vT, ai cI (aM 1) 70 (vM 1), ai cI (aM 2) 70 (vM 2), ai cI (aM 3) 40 (vM 3), ai cI (aM 4) 80 (vM 4), ai cZ (aM 5) 2 (vM 5), ai cI (aM 6) 200 (vM 6), ai cI (aM 8) 12 (vM 8), ai cI (aM 10) 12 (vM 10), ai cI (aM 18) 427 (upd (vM 18) (Int32.toNatClampNeg (((7 : Int32) * x3) + x4)) (0 : Int32)), ai cI (aM 21) 100 (vM 21), ai cI (aM 23) 100 (vM 23), ai cI (aM 24) 100 (vM 24), ai cI (aM 26) 7 (vM 26), ai cI (aM 27) 5 (vM 27), ai cI (aM 28) 64 (vM 28)] H := hP
        have hD : va_D A [oX6 aM vM vT, ai cI (aM 1) 70 (vM 1), ai cI (aM 2) 70 (vM 2), ai cI (aM 3) 40 (vM 3), ai cI (aM 4) 80 (vM 4), ai cZ (aM 5) 2 (vM 5), ai cI (aM 6) 200 (vM 6), ai cI (aM 8) 12 (vM 8), ai cI (aM 10) 12 (vM 10), ai cI (aM 18) 427 (upd (vM 18) (Int32.toNatClampNeg (((7 : Int32) * x3) + x4)) (0 : Int32)), ai cI (aM 21) 100 (vM 21), ai cI (aM 23) 100 (vM 23), ai cI (aM 24) 100 (vM 24), ai cI (aM 26) 7 (vM 26), ai cI (aM 27) 5 (vM 27), ai cI (aM 28) 64 (vM 28)] := hD
        refine lv_bipush (v := (31 : Int32)) hx hb dX6_layWays_33 k_bipush_31 ?_
        refine lv_istore (lv' := [(5, .int (31 : Int32)), (0, .ref (aM 0)), (1, .int x1), (2, .int x2), (3, .int x3), (4, .int x4)]) hx hb dX6_layWays_35 hl (by decide) rfl (fun ls hl => ?_)
        obtain ⟨o37_1, ho37_1, h⟩ := bnd_some h
        refine L37 o37_1 (fun o37_1e er H locs ls hP hD hS hl => ?_) FU (st vM 18 (Int32.toNatClampNeg (((7 : Int32) * x3) + x4)) (0 : Int32)) x1 x2 x3 x4 (31 : Int32) ho37_1 _ _ _ hP hD hS (lv_sub hl [1, 2, 3, 4, 5, 0] rfl)
        subst er
        refine lv_iinc (v := (o37_1.2.2.2.2 + (1 : Int32))) (lv' := [(4, .int (o37_1.2.2.2.2 + (1 : Int32))), (0, .ref (aM 0)), (1, .int o37_1.2.1), (2, .int o37_1.2.2.1), (3, .int o37_1.2.2.2.1)]) hx hb dX6_layWays_115 hl (k := 4) rfl (congrArg (fun z => o37_1.2.2.2.2 + z) k_iconst_1) (by decide) rfl (fun ls hl => ?_)
        refine lv_goto (tgt := 9) hx hb dX6_layWays_118 (by decide) ?_
        exact hrc o37_1.1 o37_1.2.1 o37_1.2.2.1 o37_1.2.2.2.1 (o37_1.2.2.2.2 + (1 : Int32)) h _ _ _ hP hD hS (lv_sub hl [1, 2, 3, 4, 0] rfl)
  have L2 : ∀ (out : Ob), (∀ ex : Ob, out = ex → ∀ (H : Heap) (locs : List Loc) (ls : Array Slot), va_P G vwCl [oX6 aM ex vT, ai cI (aM 1) 70 (ex 1), ai cI (aM 2) 70 (ex 2), ai cI (aM 3) 40 (ex 3), ai cI (aM 4) 80 (ex 4), ai cZ (aM 5) 2 (ex 5), ai cI (aM 6) 200 (ex 6), ai cI (aM 8) 12 (ex 8), ai cI (aM 10) 12 (ex 10), ai cI (aM 18) 427 (ex 18), ai cI (aM 21) 100 (ex 21), ai cI (aM 23) 100 (ex 23), ai cI (aM 24) 100 (ex 24), ai cI (aM 26) 7 (ex 26), ai cI (aM 27) 5 (ex 27), ai cI (aM 28) 64 (ex 28)] H → va_D A [oX6 aM ex vT, ai cI (aM 1) 70 (ex 1), ai cI (aM 2) 70 (ex 2), ai cI (aM 3) 40 (ex 3), ai cI (aM 4) 80 (ex 4), ai cZ (aM 5) 2 (ex 5), ai cI (aM 6) 200 (ex 6), ai cI (aM 8) 12 (ex 8), ai cI (aM 10) 12 (ex 10), ai cI (aM 18) 427 (ex 18), ai cI (aM 21) 100 (ex 21), ai cI (aM 23) 100 (ex 23), ai cI (aM 24) 100 (ex 24), ai cI (aM 26) 7 (ex 26), ai cI (aM 27) 5 (ex 27), ai cI (aM 28) 64 (ex 28)] → va_S A s.heap H locs → lv_has ls 7 [] → W p l e rm_X6_layWays s m args below meth c H locs 0 0 Q (F0 m 127 ls [])) → ∀ (n : Nat) (vM : Ob) (x1 : Int32) (x2 : Int32) (x3 : Int32), m_X6_layWays_L2  n vM x1 x2 x3 = some out → ∀ (H : Heap) (locs : List Loc) (ls : Array Slot), va_P G vwCl [oX6 aM vM vT, ai cI (aM 1) 70 (vM 1), ai cI (aM 2) 70 (vM 2), ai cI (aM 3) 40 (vM 3), ai cI (aM 4) 80 (vM 4), ai cZ (aM 5) 2 (vM 5), ai cI (aM 6) 200 (vM 6), ai cI (aM 8) 12 (vM 8), ai cI (aM 10) 12 (vM 10), ai cI (aM 18) 427 (vM 18), ai cI (aM 21) 100 (vM 21), ai cI (aM 23) 100 (vM 23), ai cI (aM 24) 100 (vM 24), ai cI (aM 26) 7 (vM 26), ai cI (aM 27) 5 (vM 27), ai cI (aM 28) 64 (vM 28)] H → va_D A [oX6 aM vM vT, ai cI (aM 1) 70 (vM 1), ai cI (aM 2) 70 (vM 2), ai cI (aM 3) 40 (vM 3), ai cI (aM 4) 80 (vM 4), ai cZ (aM 5) 2 (vM 5), ai cI (aM 6) 200 (vM 6), ai cI (aM 8) 12 (vM 8), ai cI (aM 10) 12 (vM 10), ai cI (aM 18) 427 (vM 18), ai cI (aM 21) 100 (vM 21), ai cI (aM 23) 100 (vM 23), ai cI (aM 24) 100 (vM 24), ai cI (aM 26) 7 (vM 26), ai cI (aM 27) 5 (vM 27), ai cI (aM 28) 64 (vM 28)] → va_S A s.heap H locs → lv_has ls 7 [(0, .ref (aM 0)), (1, .int x1), (2, .int x2), (3, .int x3)] → W p l e rm_X6_layWays s m args below meth c H locs 0 0 Q (F0 m 2 ls []) := by
    intro out hKx
    intro n
    induction n with
    | zero => intro vM x1 x2 x3 h; exact nomatch (show (none : Option (Ob)) = some out from h)
    | succ n hrc =>
      intro vM x1 x2 x3 h H locs ls hP hD hS hl
      have h : m_X6_layWays_L2B  (m_X6_layWays_L2  n) vM x1 x2 x3 = some out := h
      generalize m_X6_layWays_L2  n = rc at h hrc
      unfold m_X6_layWays_L2B at h
      refine lv_iload_n hx hb dX6_layWays_2 rfl (lv_at hl 3 rfl) ?_
      refine lv_if_lt (tgt := 127) hx hb dX6_layWays_3 (by decide) (fun c3 => ?_) (fun c3 => ?_)
      · have h := (if_pos c3).symm.trans h
        exact hKx _ (Option.some.inj h).symm _ _ _ hP hD hS (lv_sub hl [] rfl)
      · have h := (if_neg c3).symm.trans h
        refine lv_iconst (v := (0 : Int32)) hx hb dX6_layWays_6 k_iconst_0 ?_
        refine lv_istore (lv' := [(4, .int (0 : Int32)), (0, .ref (aM 0)), (1, .int x1), (2, .int x2), (3, .int x3)]) hx hb dX6_layWays_7 hl (by decide) rfl (fun ls hl => ?_)
        obtain ⟨o9_2, ho9_2, h⟩ := bnd_some h
        refine L9 o9_2 (fun o9_2e er H locs ls hP hD hS hl => ?_) FU vM x1 x2 x3 (0 : Int32) ho9_2 _ _ _ hP hD hS (lv_sub hl [1, 2, 3, 4, 0] rfl)
        subst er
        refine lv_iinc (v := (o9_2.2.2.2 + (-1 : Int32))) (lv' := [(3, .int (o9_2.2.2.2 + (-1 : Int32))), (0, .ref (aM 0)), (1, .int o9_2.2.1), (2, .int o9_2.2.2.1)]) hx hb dX6_layWays_121 hl (k := 3) rfl (congrArg (fun z => o9_2.2.2.2 + z) k_iconst_n1) (by decide) rfl (fun ls hl => ?_)
        refine lv_goto (tgt := 2) hx hb dX6_layWays_124 (by decide) ?_
        exact hrc o9_2.1 o9_2.2.1 o9_2.2.2.1 (o9_2.2.2.2 + (-1 : Int32)) h _ _ _ hP hD hS (lv_sub hl [1, 2, 3, 0] rfl)
  unfold m_X6_layWays at h
  refine lv_iload_n hx hb dX6_layWays_0 rfl (lv_at hl 2 rfl) ?_
  refine lv_istore_n (lv' := [(3, .int x2), (0, .ref (aM 0)), (1, .int x1), (2, .int x2)]) hx hb dX6_layWays_1 rfl hl (by decide) rfl (fun ls hl => ?_)
  obtain ⟨o2_3, ho2_3, h⟩ := bnd_some h
  refine L2 o2_3 (fun o2_3e er H locs ls hP hD hS hl => ?_) FU vM x1 x2 x2 ho2_3 _ _ _ hP hD hS (lv_sub hl [1, 2, 3, 0] rfl)
  subst er
  have hres := Option.some.inj h
  subst hres
  exact hRet 127 _ _ _ hP hD hS dX6_layWays_127
abbrev rm_X6_isWay : Room := { frames := 5, cells := 0, slots := 0, locals := 127 }
theorem fi_X6_isWay_X6 : ∀ w ∈ wsX60, w ∈ wsX6_isWay := fun _ h => List.mem_cons_of_mem _ (List.mem_append_right _ h)
theorem hdV_X6_isWay : yX6_isWay.cls = RX6 ∧ yX6_isWay.cls ≠ "java/lang/invoke/MethodHandle" ∧ yX6_isWay.cls ≠ "java/lang/invoke/VarHandle" ∧ (parseMethodDescriptor yX6_isWay.desc).map (fun d => d.parameters.length) = some 2 := by decide +kernel
set_option maxRecDepth 100000 in
set_option maxHeartbeats 4000000 in
theorem c_X6_isWay (l : Launch) (G : va_G) (cI cZ : ClassId) (aM : Nat → Nat) (vT : Int64) (vM : Ob) (x1 : Int32) (x2 : Int32) (res : Int32 × Ob) (h : m_X6_isWay vM x1 x2 = some res) : Ct l yX6_isWay wsX6_isWay rm_X6_isWay G cI cZ [.ref (aM 0), .int x1, .int x2] [oX6 aM vM vT, ai cI (aM 1) 70 (vM 1), ai cI (aM 2) 70 (vM 2), ai cI (aM 3) 40 (vM 3), ai cI (aM 4) 80 (vM 4), ai cZ (aM 5) 2 (vM 5), ai cI (aM 6) 200 (vM 6), ai cI (aM 8) 12 (vM 8), ai cI (aM 10) 12 (vM 10), ai cI (aM 18) 427 (vM 18), ai cI (aM 21) 100 (vM 21), ai cI (aM 23) 100 (vM 23), ai cI (aM 24) 100 (vM 24), ai cI (aM 26) 7 (vM 26), ai cI (aM 27) 5 (vM 27), ai cI (aM 28) 64 (vM 28)] (some (.int res.1)) [oX6 aM res.2 vT, ai cI (aM 1) 70 (res.2 1), ai cI (aM 2) 70 (res.2 2), ai cI (aM 3) 40 (res.2 3), ai cI (aM 4) 80 (res.2 4), ai cZ (aM 5) 2 (res.2 5), ai cI (aM 6) 200 (res.2 6), ai cI (aM 8) 12 (res.2 8), ai cI (aM 10) 12 (res.2 10), ai cI (aM 18) 427 (res.2 18), ai cI (aM 21) 100 (res.2 21), ai cI (aM 23) 100 (res.2 23), ai cI (aM 24) 100 (res.2 24), ai cI (aM 26) 7 (res.2 26), ai cI (aM 27) 5 (res.2 27), ai cI (aM 28) 64 (res.2 28)] := by
  refine Ct.of_z (maxL := 3) (by decide) rfl (Nat.le_of_ble_eq_true rfl) ?_
  intro p e s m below meth c args hx hb hml hown hts A hA hEN hP hD hS Q hRet ls hl
  have hown : s.vm.findClass RX6 = some m.cls := hown
  have hl : lv_has ls 3 [(0, .ref (aM 0)), (1, .int x1), (2, .int x2)] := hl
  unfold m_X6_isWay at h
  refine lv_aload_n hx hb dX6_isWay_0 rfl (lv_at hl 0 rfl) ?_
  refine lv_iload_n hx hb dX6_isWay_1 rfl (lv_at hl 1 rfl) ?_
  refine lv_iload_n hx hb dX6_isWay_2 rfl (lv_at hl 2 rfl) ?_
  obtain ⟨o3, ho3, h⟩ := bnd_some h
  refine call_VJ (wr := []) (As := [.int x1, .int x2]) (rest := []) ⟨hx, hb, hml, hown, hts⟩ (c_X6_layWays l G cI cZ aM vT vM x1 x2 o3 ho3) (cwV 2 hts gX6_isWay_X6_layWays rfl rfl rfl hdV_X6_layWays ⟨Nat.le_of_ble_eq_true rfl, Nat.le_of_ble_eq_true rfl⟩) hEN hA hP hD hS [0, 1, 2, 3, 4, 5, 6, 7, 8, 9, 10, 11, 12, 13, 14, 15] [] rfl (by decide) rfl (by decide) (by decide) 0 rfl rfl rfl hl.1 rfl (Nat.le_of_ble_eq_true rfl) dX6_isWay_3 ⟨Nat.le_of_ble_eq_true rfl, Nat.le_of_ble_eq_true rfl⟩ (fun H locs hP hD hS => ?_)
  have hP : va_P G vwCl [oX6 aM o3 vT, ai cI (aM 1) 70 (o3 1), ai cI (aM 2) 70 (o3 2), ai cI (aM 3) 40 (o3 3), ai cI (aM 4) 80 (o3 4), ai cZ (aM 5) 2 (o3 5), ai cI (aM 6) 200 (o3 6), ai cI (aM 8) 12 (o3 8), ai cI (aM 10) 12 (o3 10), ai cI (aM 18) 427 (o3 18), ai cI (aM 21) 100 (o3 21), ai cI (aM 23) 100 (o3 23), ai cI (aM 24) 100 (o3 24), ai cI (aM 26) 7 (o3 26), ai cI (aM 27) 5 (o3 27), ai cI (aM 28) 64 (o3 28)] H := hP
  have hD : va_D A [oX6 aM o3 vT, ai cI (aM 1) 70 (o3 1), ai cI (aM 2) 70 (o3 2), ai cI (aM 3) 40 (o3 3), ai cI (aM 4) 80 (o3 4), ai cZ (aM 5) 2 (o3 5), ai cI (aM 6) 200 (o3 6), ai cI (aM 8) 12 (o3 8), ai cI (aM 10) 12 (o3 10), ai cI (aM 18) 427 (o3 18), ai cI (aM 21) 100 (o3 21), ai cI (aM 23) 100 (o3 23), ai cI (aM 24) 100 (o3 24), ai cI (aM 26) 7 (o3 26), ai cI (aM 27) 5 (o3 27), ai cI (aM 28) 64 (o3 28)] := hD
  refine lv_aload_n hx hb dX6_isWay_6 rfl (lv_at hl 0 rfl) ?_
  refine lv_iconst (v := (0 : Int32)) hx hb dX6_isWay_7 k_iconst_0 ?_
  refine lv_aload_n hx hb dX6_isWay_8 rfl (lv_at hl 0 rfl) ?_
  refine va_get (D := G) (ci := 6) (v := .ref (aM 3)) (C := RX6) (T := TX6) (N := 29) hx hb hts fi_X6_isWay_X6 hown hEN.1 hP 0 rfl rfl 2 (by decide) (hts (.fieldLink RX6 16 "HourWellModel" "he" "[I") (List.mem_of_getElem? (i := 1) rfl)) (fun _ h9 => h9) rfl dX6_isWay_9 ?_
  refine lv_iconst (v := (0 : Int32)) hx hb dX6_isWay_12 k_iconst_0 ?_
  refine va_iald (f := (o3 3)) hx hb hEN.1 hP 3 0 rfl rfl (inb_in (i := (0 : Int32)) (n := 40) rfl) dX6_isWay_13 ?_
  refine lv_aload_n hx hb dX6_isWay_14 rfl (lv_at hl 0 rfl) ?_
  refine va_get (D := G) (ci := 6) (v := .ref (aM 3)) (C := RX6) (T := TX6) (N := 29) hx hb hts fi_X6_isWay_X6 hown hEN.1 hP 0 rfl rfl 2 (by decide) (hts (.fieldLink RX6 16 "HourWellModel" "he" "[I") (List.mem_of_getElem? (i := 1) rfl)) (fun _ h9 => h9) rfl dX6_isWay_15 ?_
  refine lv_iconst (v := (2 : Int32)) hx hb dX6_isWay_18 k_iconst_2 ?_
  refine va_iald (f := (o3 3)) hx hb hEN.1 hP 3 0 rfl rfl (inb_in (i := (2 : Int32)) (n := 40) rfl) dX6_isWay_19 ?_
  obtain ⟨o20, ho20, h⟩ := bnd_some h
  refine call_V0 (As := [.int (0 : Int32), .int ((o3 3) (Int32.toNatClampNeg (0 : Int32))), .int ((o3 3) (Int32.toNatClampNeg (2 : Int32)))]) (rest := []) ⟨hx, hb, hml, hown, hts⟩ (c_X6_canBe l G cI cZ aM vT o3 (0 : Int32) ((o3 3) (Int32.toNatClampNeg (0 : Int32))) ((o3 3) (Int32.toNatClampNeg (2 : Int32))) o20 ho20) (cwV 3 hts gX6_isWay_X6_canBe rfl rfl rfl hdV_X6_canBe ⟨Nat.le_of_ble_eq_true rfl, Nat.le_of_ble_eq_true rfl⟩) hEN hA hP hD hS [0, 9] rfl (by decide) 0 rfl rfl rfl hl.1 rfl (Nat.le_of_ble_eq_true rfl) dX6_isWay_20 ⟨Nat.le_of_ble_eq_true rfl, Nat.le_of_ble_eq_true rfl⟩ (fun H locs hP hS => ?_)
  obtain ⟨hg23, h⟩ := grd_some h
  have hres := Option.some.inj h
  subst hres
  exact hRet 23 (bz_n hg23) _ _ _ hP hD hS dX6_isWay_23
abbrev rm_X6_fewest : Room := { frames := 6, cells := 0, slots := 0, locals := 149 }
theorem fi_X6_fewest_X6 : ∀ w ∈ wsX60, w ∈ wsX6_fewest := fun _ h => List.mem_cons_of_mem _ (List.mem_append_right _ h)
theorem hdV_X6_fewest : yX6_fewest.cls = RX6 ∧ yX6_fewest.cls ≠ "java/lang/invoke/MethodHandle" ∧ yX6_fewest.cls ≠ "java/lang/invoke/VarHandle" ∧ (parseMethodDescriptor yX6_fewest.desc).map (fun d => d.parameters.length) = some 1 := by decide +kernel
set_option maxRecDepth 100000 in
set_option maxHeartbeats 4000000 in
theorem c_X6_fewest (l : Launch) (G : va_G) (cI cZ : ClassId) (aM : Nat → Nat) (vT : Int64) (vM : Ob) (x1 : Int32) (res : Int32 × Ob) (h : m_X6_fewest vM x1 = some res) : Ct l yX6_fewest wsX6_fewest rm_X6_fewest G cI cZ [.ref (aM 0), .int x1] [oX6 aM vM vT, ai cI (aM 1) 70 (vM 1), ai cI (aM 2) 70 (vM 2), ai cI (aM 3) 40 (vM 3), ai cI (aM 4) 80 (vM 4), ai cZ (aM 5) 2 (vM 5), ai cI (aM 6) 200 (vM 6), ai cI (aM 8) 12 (vM 8), ai cI (aM 10) 12 (vM 10), ai cI (aM 18) 427 (vM 18), ai cI (aM 21) 100 (vM 21), ai cI (aM 23) 100 (vM 23), ai cI (aM 24) 100 (vM 24), ai cI (aM 26) 7 (vM 26), ai cI (aM 27) 5 (vM 27), ai cI (aM 28) 64 (vM 28)] (some (.int res.1)) [oX6 aM res.2 vT, ai cI (aM 1) 70 (res.2 1), ai cI (aM 2) 70 (res.2 2), ai cI (aM 3) 40 (res.2 3), ai cI (aM 4) 80 (res.2 4), ai cZ (aM 5) 2 (res.2 5), ai cI (aM 6) 200 (res.2 6), ai cI (aM 8) 12 (res.2 8), ai cI (aM 10) 12 (res.2 10), ai cI (aM 18) 427 (res.2 18), ai cI (aM 21) 100 (res.2 21), ai cI (aM 23) 100 (res.2 23), ai cI (aM 24) 100 (res.2 24), ai cI (aM 26) 7 (res.2 26), ai cI (aM 27) 5 (res.2 27), ai cI (aM 28) 64 (res.2 28)] := by
  refine Ct.of_i (maxL := 6) (by decide) rfl (Nat.le_of_ble_eq_true rfl) ?_
  intro p e s m below meth c args hx hb hml hown hts A hA hEN hP hD hS Q hRet ls hl
  have hown : s.vm.findClass RX6 = some m.cls := hown
  have hl : lv_has ls 6 [(0, .ref (aM 0)), (1, .int x1)] := hl
  have L27 : ∀ (out : Ob × Int32 × Int32), (∀ ex : Ob × Int32 × Int32, out = ex → ∀ (H : Heap) (locs : List Loc) (ls : Array Slot), va_P G vwCl [oX6 aM ex.1 vT, ai cI (aM 1) 70 (ex.1 1), ai cI (aM 2) 70 (ex.1 2), ai cI (aM 3) 40 (ex.1 3), ai cI (aM 4) 80 (ex.1 4), ai cZ (aM 5) 2 (ex.1 5), ai cI (aM 6) 200 (ex.1 6), ai cI (aM 8) 12 (ex.1 8), ai cI (aM 10) 12 (ex.1 10), ai cI (aM 18) 427 (ex.1 18), ai cI (aM 21) 100 (ex.1 21), ai cI (aM 23) 100 (ex.1 23), ai cI (aM 24) 100 (ex.1 24), ai cI (aM 26) 7 (ex.1 26), ai cI (aM 27) 5 (ex.1 27), ai cI (aM 28) 64 (ex.1 28)] H → va_D A [oX6 aM ex.1 vT, ai cI (aM 1) 70 (ex.1 1), ai cI (aM 2) 70 (ex.1 2), ai cI (aM 3) 40 (ex.1 3), ai cI (aM 4) 80 (ex.1 4), ai cZ (aM 5) 2 (ex.1 5), ai cI (aM 6) 200 (ex.1 6), ai cI (aM 8) 12 (ex.1 8), ai cI (aM 10) 12 (ex.1 10), ai cI (aM 18) 427 (ex.1 18), ai cI (aM 21) 100 (ex.1 21), ai cI (aM 23) 100 (ex.1 23), ai cI (aM 24) 100 (ex.1 24), ai cI (aM 26) 7 (ex.1 26), ai cI (aM 27) 5 (ex.1 27), ai cI (aM 28) 64 (ex.1 28)] → va_S A s.heap H locs → lv_has ls 6 [(0, .ref (aM 0)), (1, .int ex.2.1), (2, .int ex.2.2)] → W p l e rm_X6_fewest s m args below meth c H locs 0 0 Q (F0 m 77 ls [])) → ∀ (n : Nat) (vM : Ob) (x1 : Int32) (x2 : Int32) (x3 : Int32), m_X6_fewest_L27  n vM x1 x2 x3 = some out → ∀ (H : Heap) (locs : List Loc) (ls : Array Slot), va_P G vwCl [oX6 aM vM vT, ai cI (aM 1) 70 (vM 1), ai cI (aM 2) 70 (vM 2), ai cI (aM 3) 40 (vM 3), ai cI (aM 4) 80 (vM 4), ai cZ (aM 5) 2 (vM 5), ai cI (aM 6) 200 (vM 6), ai cI (aM 8) 12 (vM 8), ai cI (aM 10) 12 (vM 10), ai cI (aM 18) 427 (vM 18), ai cI (aM 21) 100 (vM 21), ai cI (aM 23) 100 (vM 23), ai cI (aM 24) 100 (vM 24), ai cI (aM 26) 7 (vM 26), ai cI (aM 27) 5 (vM 27), ai cI (aM 28) 64 (vM 28)] H → va_D A [oX6 aM vM vT, ai cI (aM 1) 70 (vM 1), ai cI (aM 2) 70 (vM 2), ai cI (aM 3) 40 (vM 3), ai cI (aM 4) 80 (vM 4), ai cZ (aM 5) 2 (vM 5), ai cI (aM 6) 200 (vM 6), ai cI (aM 8) 12 (vM 8), ai cI (aM 10) 12 (vM 10), ai cI (aM 18) 427 (vM 18), ai cI (aM 21) 100 (vM 21), ai cI (aM 23) 100 (vM 23), ai cI (aM 24) 100 (vM 24), ai cI (aM 26) 7 (vM 26), ai cI (aM 27) 5 (vM 27), ai cI (aM 28) 64 (vM 28)] → va_S A s.heap H locs → lv_has ls 6 [(0, .ref (aM 0)), (1, .int x1), (2, .int x2), (3, .int x3)] → W p l e rm_X6_fewest s m args below meth c H locs 0 0 Q (F0 m 27 ls []) := by
    intro out hKx
    have j73 : ∀ (rc : Ob → Int32 → Int32 → Int32 → Option (Ob × Int32 × Int32)), (∀ (vM : Ob) (x1 : Int32) (x2 : Int32) (x3 : Int32), rc vM x1 x2 x3 = some out → ∀ (H : Heap) (locs : List Loc) (ls : Array Slot), va_P G vwCl [oX6 aM vM vT, ai cI (aM 1) 70 (vM 1), ai cI (aM 2) 70 (vM 2), ai cI (aM 3) 40 (vM 3), ai cI (aM 4) 80 (vM 4), ai cZ (aM 5) 2 (vM 5), ai cI (aM 6) 200 (vM 6), ai cI (aM 8) 12 (vM 8), ai cI (aM 10) 12 (vM 10), ai cI (aM 18) 427 (vM 18), ai cI (aM 21) 100 (vM 21), ai cI (aM 23) 100 (vM 23), ai cI (aM 24) 100 (vM 24), ai cI (aM 26) 7 (vM 26), ai cI (aM 27) 5 (vM 27), ai cI (aM 28) 64 (vM 28)] H → va_D A [oX6 aM vM vT, ai cI (aM 1) 70 (vM 1), ai cI (aM 2) 70 (vM 2), ai cI (aM 3) 40 (vM 3), ai cI (aM 4) 80 (vM 4), ai cZ (aM 5) 2 (vM 5), ai cI (aM 6) 200 (vM 6), ai cI (aM 8) 12 (vM 8), ai cI (aM 10) 12 (vM 10), ai cI (aM 18) 427 (vM 18), ai cI (aM 21) 100 (vM 21), ai cI (aM 23) 100 (vM 23), ai cI (aM 24) 100 (vM 24), ai cI (aM 26) 7 (vM 26), ai cI (aM 27) 5 (vM 27), ai cI (aM 28) 64 (vM 28)] → va_S A s.heap H locs → lv_has ls 6 [(0, .ref (aM 0)), (1, .int x1), (2, .int x2), (3, .int x3)] → W p l e rm_X6_fewest s m args below meth c H locs 0 0 Q (F0 m 27 ls [])) → ∀ (vM : Ob) (x1 : Int32) (x2 : Int32) (s0 : Int32), m_X6_fewest_j73  rc vM x1 x2 s0 = some out → ∀ (H : Heap) (locs : List Loc) (ls : Array Slot), va_P G vwCl [oX6 aM vM vT, ai cI (aM 1) 70 (vM 1), ai cI (aM 2) 70 (vM 2), ai cI (aM 3) 40 (vM 3), ai cI (aM 4) 80 (vM 4), ai cZ (aM 5) 2 (vM 5), ai cI (aM 6) 200 (vM 6), ai cI (aM 8) 12 (vM 8), ai cI (aM 10) 12 (vM 10), ai cI (aM 18) 427 (vM 18), ai cI (aM 21) 100 (vM 21), ai cI (aM 23) 100 (vM 23), ai cI (aM 24) 100 (vM 24), ai cI (aM 26) 7 (vM 26), ai cI (aM 27) 5 (vM 27), ai cI (aM 28) 64 (vM 28)] H → va_D A [oX6 aM vM vT, ai cI (aM 1) 70 (vM 1), ai cI (aM 2) 70 (vM 2), ai cI (aM 3) 40 (vM 3), ai cI (aM 4) 80 (vM 4), ai cZ (aM 5) 2 (vM 5), ai cI (aM 6) 200 (vM 6), ai cI (aM 8) 12 (vM 8), ai cI (aM 10) 12 (vM 10), ai cI (aM 18) 427 (vM 18), ai cI (aM 21) 100 (vM 21), ai cI (aM 23) 100 (vM 23), ai cI (aM 24) 100 (vM 24), ai cI (aM 26) 7 (vM 26), ai cI (aM 27) 5 (vM 27), ai cI (aM 28) 64 (vM 28)] → va_S A s.heap H locs → lv_has ls 6 [(0, .ref (aM 0)), (1, .int x1), (2, .int x2)] → W p l e rm_X6_fewest s m args below meth c H locs 0 0 Q (F0 m 73 ls [.int s0]) := by
      intro rc hrc vM x1 x2 s0 h H locs ls hP hD hS hl
      unfold m_X6_fewest_j73 at h
      refine lv_istore_n (lv' := [(3, .int s0), (0, .ref (aM 0)), (1, .int x1), (2, .int x2)]) hx hb dX6_fewest_73 rfl hl (by decide) rfl (fun ls hl => ?_)
      refine lv_goto (tgt := 27) hx hb dX6_fewest_74 (by decide) ?_
      exact hrc vM x1 x2 s0 h _ _ _ hP hD hS (lv_sub hl [1, 2, 3, 0] rfl)
    have j61 : ∀ (rc : Ob → Int32 → Int32 → Int32 → Option (Ob × Int32 × Int32)), (∀ (vM : Ob) (x1 : Int32) (x2 : Int32) (x3 : Int32), rc vM x1 x2 x3 = some out → ∀ (H : Heap) (locs : List Loc) (ls : Array Slot), va_P G vwCl [oX6 aM vM vT, ai cI (aM 1) 70 (vM 1), ai cI (aM 2) 70 (vM 2), ai cI (aM 3) 40 (vM 3), ai cI (aM 4) 80 (vM 4), ai cZ (aM 5) 2 (vM 5), ai cI (aM 6) 200 (vM 6), ai cI (aM 8) 12 (vM 8), ai cI (aM 10) 12 (vM 10), ai cI (aM 18) 427 (vM 18), ai cI (aM 21) 100 (vM 21), ai cI (aM 23) 100 (vM 23), ai cI (aM 24) 100 (vM 24), ai cI (aM 26) 7 (vM 26), ai cI (aM 27) 5 (vM 27), ai cI (aM 28) 64 (vM 28)] H → va_D A [oX6 aM vM vT, ai cI (aM 1) 70 (vM 1), ai cI (aM 2) 70 (vM 2), ai cI (aM 3) 40 (vM 3), ai cI (aM 4) 80 (vM 4), ai cZ (aM 5) 2 (vM 5), ai cI (aM 6) 200 (vM 6), ai cI (aM 8) 12 (vM 8), ai cI (aM 10) 12 (vM 10), ai cI (aM 18) 427 (vM 18), ai cI (aM 21) 100 (vM 21), ai cI (aM 23) 100 (vM 23), ai cI (aM 24) 100 (vM 24), ai cI (aM 26) 7 (vM 26), ai cI (aM 27) 5 (vM 27), ai cI (aM 28) 64 (vM 28)] → va_S A s.heap H locs → lv_has ls 6 [(0, .ref (aM 0)), (1, .int x1), (2, .int x2), (3, .int x3)] → W p l e rm_X6_fewest s m args below meth c H locs 0 0 Q (F0 m 27 ls [])) → ∀ (vM : Ob) (x1 : Int32) (x3 : Int32) (x4 : Int32) (x5 : Int32) (s0 : Int32), m_X6_fewest_j61  rc vM x1 x3 x4 x5 s0 = some out → ∀ (H : Heap) (locs : List Loc) (ls : Array Slot), va_P G vwCl [oX6 aM vM vT, ai cI (aM 1) 70 (vM 1), ai cI (aM 2) 70 (vM 2), ai cI (aM 3) 40 (vM 3), ai cI (aM 4) 80 (vM 4), ai cZ (aM 5) 2 (vM 5), ai cI (aM 6) 200 (vM 6), ai cI (aM 8) 12 (vM 8), ai cI (aM 10) 12 (vM 10), ai cI (aM 18) 427 (vM 18), ai cI (aM 21) 100 (vM 21), ai cI (aM 23) 100 (vM 23), ai cI (aM 24) 100 (vM 24), ai cI (aM 26) 7 (vM 26), ai cI (aM 27) 5 (vM 27), ai cI (aM 28) 64 (vM 28)] H → va_D A [oX6 aM vM vT, ai cI (aM 1) 70 (vM 1), ai cI (aM 2) 70 (vM 2), ai cI (aM 3) 40 (vM 3), ai cI (aM 4) 80 (vM 4), ai cZ (aM 5) 2 (vM 5), ai cI (aM 6) 200 (vM 6), ai cI (aM 8) 12 (vM 8), ai cI (aM 10) 12 (vM 10), ai cI (aM 18) 427 (vM 18), ai cI (aM 21) 100 (vM 21), ai cI (aM 23) 100 (vM 23), ai cI (aM 24) 100 (vM 24), ai cI (aM 26) 7 (vM 26), ai cI (aM 27) 5 (vM 27), ai cI (aM 28) 64 (vM 28)] → va_S A s.heap H locs → lv_has ls 6 [(0, .ref (aM 0)), (1, .int x1), (3, .int x3), (4, .int x4), (5, .int x5)] → W p l e rm_X6_fewest s m args below meth c H locs 0 0 Q (F0 m 61 ls [.int s0]) := by
      intro rc hrc vM x1 x3 x4 x5 s0 h H locs ls hP hD hS hl
      unfold m_X6_fewest_j61 at h
      refine lv_istore_n (lv' := [(2, .int s0), (0, .ref (aM 0)), (1, .int x1), (3, .int x3), (4, .int x4), (5, .int x5)]) hx hb dX6_fewest_61 rfl hl (by decide) rfl (fun ls hl => ?_)
      refine lv_iload hx hb dX6_fewest_62 (lv_at hl 5 rfl) ?_
      refine lv_if_eq (tgt := 72) hx hb dX6_fewest_64 (by decide) (fun c64 => ?_) (fun c64 => ?_)
      · have h := (if_pos c64).symm.trans h
        refine lv_iload_n hx hb dX6_fewest_72 rfl (lv_at hl 3 rfl) ?_
        exact j73 rc hrc vM x1 s0 x3 h _ _ _ hP hD hS (lv_sub hl [1, 2, 0] rfl)
      · have h := (if_neg c64).symm.trans h
        refine lv_iload hx hb dX6_fewest_67 (lv_at hl 4 rfl) ?_
        refine lv_goto (tgt := 73) hx hb dX6_fewest_69 (by decide) ?_
        exact j73 rc hrc vM x1 s0 x4 h _ _ _ hP hD hS (lv_sub hl [1, 2, 0] rfl)
    intro n
    induction n with
    | zero => intro vM x1 x2 x3 h; exact nomatch (show (none : Option (Ob × Int32 × Int32)) = some out from h)
    | succ n hrc =>
      intro vM x1 x2 x3 h H locs ls hP hD hS hl
      have h : m_X6_fewest_L27B  (m_X6_fewest_L27  n) vM x1 x2 x3 = some out := h
      generalize m_X6_fewest_L27  n = rc at h hrc
      unfold m_X6_fewest_L27B at h
      refine lv_iload_n hx hb dX6_fewest_27 rfl (lv_at hl 2 rfl) ?_
      refine lv_iload_n hx hb dX6_fewest_28 rfl (lv_at hl 3 rfl) ?_
      refine lv_icmp_ge (tgt := 77) hx hb dX6_fewest_29 (by decide) (fun c29 => ?_) (fun c29 => ?_)
      · have h := (if_pos c29).symm.trans h
        exact hKx _ (Option.some.inj h).symm _ _ _ hP hD hS (lv_sub hl [0, 1, 2] rfl)
      · have h := (if_neg c29).symm.trans h
        refine lv_iload_n hx hb dX6_fewest_32 rfl (lv_at hl 2 rfl) ?_
        refine lv_iload_n hx hb dX6_fewest_33 rfl (lv_at hl 3 rfl) ?_
        refine lv_iadd hx hb dX6_fewest_34 ?_
        refine lv_iconst (v := (2 : Int32)) hx hb dX6_fewest_35 k_iconst_2 ?_
        refine lv_idiv hx hb dX6_fewest_36 (by decide) ?_
        refine lv_istore (lv' := [(4, .int ((x2 + x3) / (2 : Int32))), (0, .ref (aM 0)), (1, .int x1), (2, .int x2), (3, .int x3)]) hx hb dX6_fewest_37 hl (by decide) rfl (fun ls hl => ?_)
        refine lv_aload_n hx hb dX6_fewest_39 rfl (lv_at hl 1 rfl) ?_
        refine lv_iload_n hx hb dX6_fewest_40 rfl (lv_at hl 2 rfl) ?_
        refine lv_iload hx hb dX6_fewest_41 (lv_at hl 0 rfl) ?_
        obtain ⟨o43, ho43, h⟩ := bnd_some h
        refine call_VJ (wr := []) (As := [.int x1, .int ((x2 + x3) / (2 : Int32))]) (rest := []) ⟨hx, hb, hml, hown, hts⟩ (c_X6_isWay l G cI cZ aM vT vM x1 ((x2 + x3) / (2 : Int32)) o43 ho43) (cwV 2 hts gX6_fewest_X6_isWay rfl rfl rfl hdV_X6_isWay ⟨Nat.le_of_ble_eq_true rfl, Nat.le_of_ble_eq_true rfl⟩) hEN hA hP hD hS [0, 1, 2, 3, 4, 5, 6, 7, 8, 9, 10, 11, 12, 13, 14, 15] [] rfl (by decide) rfl (by decide) (by decide) 0 rfl rfl rfl hl.1 rfl (Nat.le_of_ble_eq_true rfl) dX6_fewest_43 ⟨Nat.le_of_ble_eq_true rfl, Nat.le_of_ble_eq_true rfl⟩ (fun H locs hP hD hS => ?_)
        have hP : va_P G vwCl [oX6 aM o43.2 vT, ai cI (aM 1) 70 (o43.2 1), ai cI (aM 2) 70 (o43.2 2), ai cI (aM 3) 40 (o43.2 3), ai cI (aM 4) 80 (o43.2 4), ai cZ (aM 5) 2 (o43.2 5), ai cI (aM 6) 200 (o43.2 6), ai cI (aM 8) 12 (o43.2 8), ai cI (aM 10) 12 (o43.2 10), ai cI (aM 18) 427 (o43.2 18), ai cI (aM 21) 100 (o43.2 21), ai cI (aM 23) 100 (o43.2 23), ai cI (aM 24) 100 (o43.2 24), ai cI (aM 26) 7 (o43.2 26), ai cI (aM 27) 5 (o43.2 27), ai cI (aM 28) 64 (o43.2 28)] H := hP
        have hD : va_D A [oX6 aM o43.2 vT, ai cI (aM 1) 70 (o43.2 1), ai cI (aM 2) 70 (o43.2 2), ai cI (aM 3) 40 (o43.2 3), ai cI (aM 4) 80 (o43.2 4), ai cZ (aM 5) 2 (o43.2 5), ai cI (aM 6) 200 (o43.2 6), ai cI (aM 8) 12 (o43.2 8), ai cI (aM 10) 12 (o43.2 10), ai cI (aM 18) 427 (o43.2 18), ai cI (aM 21) 100 (o43.2 21), ai cI (aM 23) 100 (o43.2 23), ai cI (aM 24) 100 (o43.2 24), ai cI (aM 26) 7 (o43.2 26), ai cI (aM 27) 5 (o43.2 27), ai cI (aM 28) 64 (o43.2 28)] := hD
        refine lv_istore (lv' := [(5, .int o43.1), (4, .int ((x2 + x3) / (2 : Int32))), (0, .ref (aM 0)), (1, .int x1), (2, .int x2), (3, .int x3)]) hx hb dX6_fewest_46 hl (by decide) rfl (fun ls hl => ?_)
        refine lv_iload hx hb dX6_fewest_48 (lv_at hl 0 rfl) ?_
        refine lv_if_eq (tgt := 57) hx hb dX6_fewest_50 (by decide) (fun c50 => ?_) (fun c50 => ?_)
        · have h := (if_pos c50).symm.trans h
          refine lv_iload hx hb dX6_fewest_57 (lv_at hl 1 rfl) ?_
          refine lv_iconst (v := (1 : Int32)) hx hb dX6_fewest_59 k_iconst_1 ?_
          refine lv_iadd hx hb dX6_fewest_60 ?_
          exact j61 rc hrc o43.2 x1 x3 ((x2 + x3) / (2 : Int32)) o43.1 (((x2 + x3) / (2 : Int32)) + (1 : Int32)) h _ _ _ hP hD hS (lv_sub hl [2, 3, 5, 1, 0] rfl)
        · have h := (if_neg c50).symm.trans h
          refine lv_iload_n hx hb dX6_fewest_53 rfl (lv_at hl 4 rfl) ?_
          refine lv_goto (tgt := 61) hx hb dX6_fewest_54 (by decide) ?_
          exact j61 rc hrc o43.2 x1 x3 ((x2 + x3) / (2 : Int32)) o43.1 x2 h _ _ _ hP hD hS (lv_sub hl [2, 3, 5, 1, 0] rfl)
  unfold m_X6_fewest at h
  refine lv_aload_n hx hb dX6_fewest_0 rfl (lv_at hl 0 rfl) ?_
  refine va_get (D := G) (ci := 6) (v := .ref (aM 1)) (C := RX6) (T := TX6) (N := 29) hx hb hts fi_X6_fewest_X6 hown hEN.1 hP 0 rfl rfl 0 (by decide) (hts (.fieldLink RX6 7 "HourWellModel" "tale" "[I") (List.mem_of_getElem? (i := 1) rfl)) (fun _ h9 => h9) rfl dX6_fewest_1 ?_
  refine lv_iconst (v := (0 : Int32)) hx hb dX6_fewest_4 k_iconst_0 ?_
  refine va_iald (f := (vM 1)) hx hb hEN.1 hP 1 0 rfl rfl (inb_in (i := (0 : Int32)) (n := 70) rfl) dX6_fewest_5 ?_
  refine lv_if_eq (tgt := 19) hx hb dX6_fewest_6 (by decide) (fun c6 => ?_) (fun c6 => ?_)
  · have h := (if_pos c6).symm.trans h
    refine lv_bipush (v := (-9 : Int32)) hx hb dX6_fewest_19 k_bipush_n9 ?_
    have hres := Option.some.inj h
    subst hres
    exact hRet 21 _ _ _ hP hD hS dX6_fewest_21
  · have h := (if_neg c6).symm.trans h
    refine lv_aload_n hx hb dX6_fewest_9 rfl (lv_at hl 0 rfl) ?_
    refine lv_iload_n hx hb dX6_fewest_10 rfl (lv_at hl 1 rfl) ?_
    refine lv_bipush (v := (60 : Int32)) hx hb dX6_fewest_11 k_bipush_60 ?_
    obtain ⟨o13, ho13, h⟩ := bnd_some h
    refine call_VJ (wr := []) (As := [.int x1, .int (60 : Int32)]) (rest := []) ⟨hx, hb, hml, hown, hts⟩ (c_X6_isWay l G cI cZ aM vT vM x1 (60 : Int32) o13 ho13) (cwV 2 hts gX6_fewest_X6_isWay rfl rfl rfl hdV_X6_isWay ⟨Nat.le_of_ble_eq_true rfl, Nat.le_of_ble_eq_true rfl⟩) hEN hA hP hD hS [0, 1, 2, 3, 4, 5, 6, 7, 8, 9, 10, 11, 12, 13, 14, 15] [] rfl (by decide) rfl (by decide) (by decide) 0 rfl rfl rfl hl.1 rfl (Nat.le_of_ble_eq_true rfl) dX6_fewest_13 ⟨Nat.le_of_ble_eq_true rfl, Nat.le_of_ble_eq_true rfl⟩ (fun H locs hP hD hS => ?_)
    have hP : va_P G vwCl [oX6 aM o13.2 vT, ai cI (aM 1) 70 (o13.2 1), ai cI (aM 2) 70 (o13.2 2), ai cI (aM 3) 40 (o13.2 3), ai cI (aM 4) 80 (o13.2 4), ai cZ (aM 5) 2 (o13.2 5), ai cI (aM 6) 200 (o13.2 6), ai cI (aM 8) 12 (o13.2 8), ai cI (aM 10) 12 (o13.2 10), ai cI (aM 18) 427 (o13.2 18), ai cI (aM 21) 100 (o13.2 21), ai cI (aM 23) 100 (o13.2 23), ai cI (aM 24) 100 (o13.2 24), ai cI (aM 26) 7 (o13.2 26), ai cI (aM 27) 5 (o13.2 27), ai cI (aM 28) 64 (o13.2 28)] H := hP
    have hD : va_D A [oX6 aM o13.2 vT, ai cI (aM 1) 70 (o13.2 1), ai cI (aM 2) 70 (o13.2 2), ai cI (aM 3) 40 (o13.2 3), ai cI (aM 4) 80 (o13.2 4), ai cZ (aM 5) 2 (o13.2 5), ai cI (aM 6) 200 (o13.2 6), ai cI (aM 8) 12 (o13.2 8), ai cI (aM 10) 12 (o13.2 10), ai cI (aM 18) 427 (o13.2 18), ai cI (aM 21) 100 (o13.2 21), ai cI (aM 23) 100 (o13.2 23), ai cI (aM 24) 100 (o13.2 24), ai cI (aM 26) 7 (o13.2 26), ai cI (aM 27) 5 (o13.2 27), ai cI (aM 28) 64 (o13.2 28)] := hD
    refine lv_if_ne (tgt := 22) hx hb dX6_fewest_16 (by decide) (fun c16 => ?_) (fun c16 => ?_)
    · have h := (if_neg c16).symm.trans h
      refine lv_iconst (v := (0 : Int32)) hx hb dX6_fewest_22 k_iconst_0 ?_
      refine lv_istore_n (lv' := [(2, .int (0 : Int32)), (0, .ref (aM 0)), (1, .int x1)]) hx hb dX6_fewest_23 rfl hl (by decide) rfl (fun ls hl => ?_)
      refine lv_bipush (v := (60 : Int32)) hx hb dX6_fewest_24 k_bipush_60 ?_
      refine lv_istore_n (lv' := [(3, .int (60 : Int32)), (2, .int (0 : Int32)), (0, .ref (aM 0)), (1, .int x1)]) hx hb dX6_fewest_26 rfl hl (by decide) rfl (fun ls hl => ?_)
      obtain ⟨o27_1, ho27_1, h⟩ := bnd_some h
      refine L27 o27_1 (fun o27_1e er H locs ls hP hD hS hl => ?_) FU o13.2 x1 (0 : Int32) (60 : Int32) ho27_1 _ _ _ hP hD hS (lv_sub hl [2, 3, 1, 0] rfl)
      subst er
      refine lv_aload_n hx hb dX6_fewest_77 rfl (lv_at hl 0 rfl) ?_
      refine lv_iload_n hx hb dX6_fewest_78 rfl (lv_at hl 1 rfl) ?_
      refine lv_iload_n hx hb dX6_fewest_79 rfl (lv_at hl 2 rfl) ?_
      obtain ⟨o80, ho80, h⟩ := bnd_some h
      refine call_VJ (wr := []) (As := [.int o27_1.2.1, .int o27_1.2.2]) (rest := []) ⟨hx, hb, hml, hown, hts⟩ (c_X6_layWays l G cI cZ aM vT o27_1.1 o27_1.2.1 o27_1.2.2 o80 ho80) (cwV 2 hts gX6_fewest_X6_layWays rfl rfl rfl hdV_X6_layWays ⟨Nat.le_of_ble_eq_true rfl, Nat.le_of_ble_eq_true rfl⟩) hEN hA hP hD hS [0, 1, 2, 3, 4, 5, 6, 7, 8, 9, 10, 11, 12, 13, 14, 15] [] rfl (by decide) rfl (by decide) (by decide) 0 rfl rfl rfl hl.1 rfl (Nat.le_of_ble_eq_true rfl) dX6_fewest_80 ⟨Nat.le_of_ble_eq_true rfl, Nat.le_of_ble_eq_true rfl⟩ (fun H locs hP hD hS => ?_)
      have hP : va_P G vwCl [oX6 aM o80 vT, ai cI (aM 1) 70 (o80 1), ai cI (aM 2) 70 (o80 2), ai cI (aM 3) 40 (o80 3), ai cI (aM 4) 80 (o80 4), ai cZ (aM 5) 2 (o80 5), ai cI (aM 6) 200 (o80 6), ai cI (aM 8) 12 (o80 8), ai cI (aM 10) 12 (o80 10), ai cI (aM 18) 427 (o80 18), ai cI (aM 21) 100 (o80 21), ai cI (aM 23) 100 (o80 23), ai cI (aM 24) 100 (o80 24), ai cI (aM 26) 7 (o80 26), ai cI (aM 27) 5 (o80 27), ai cI (aM 28) 64 (o80 28)] H := hP
      have hD : va_D A [oX6 aM o80 vT, ai cI (aM 1) 70 (o80 1), ai cI (aM 2) 70 (o80 2), ai cI (aM 3) 40 (o80 3), ai cI (aM 4) 80 (o80 4), ai cZ (aM 5) 2 (o80 5), ai cI (aM 6) 200 (o80 6), ai cI (aM 8) 12 (o80 8), ai cI (aM 10) 12 (o80 10), ai cI (aM 18) 427 (o80 18), ai cI (aM 21) 100 (o80 21), ai cI (aM 23) 100 (o80 23), ai cI (aM 24) 100 (o80 24), ai cI (aM 26) 7 (o80 26), ai cI (aM 27) 5 (o80 27), ai cI (aM 28) 64 (o80 28)] := hD
      refine lv_iload_n hx hb dX6_fewest_83 rfl (lv_at hl 2 rfl) ?_
      have hres := Option.some.inj h
      subst hres
      exact hRet 84 _ _ _ hP hD hS dX6_fewest_84
    · have h := (if_pos c16).symm.trans h
      refine lv_bipush (v := (-9 : Int32)) hx hb dX6_fewest_19 k_bipush_n9 ?_
      have hres := Option.some.inj h
      subst hres
      exact hRet 21 _ _ _ hP hD hS dX6_fewest_21
abbrev rm_X6_leastStep : Room := { frames := 3, cells := 0, slots := 0, locals := 75 }
theorem fi_X6_leastStep_X6 : ∀ w ∈ wsX60, w ∈ wsX6_leastStep := fun _ h => List.mem_cons_of_mem _ (List.mem_append_right _ h)
theorem hdV_X6_leastStep : yX6_leastStep.cls = RX6 ∧ yX6_leastStep.cls ≠ "java/lang/invoke/MethodHandle" ∧ yX6_leastStep.cls ≠ "java/lang/invoke/VarHandle" ∧ (parseMethodDescriptor yX6_leastStep.desc).map (fun d => d.parameters.length) = some 4 := by decide +kernel
set_option maxRecDepth 100000 in
set_option maxHeartbeats 4000000 in
theorem c_X6_leastStep (l : Launch) (G : va_G) (cI cZ : ClassId) (aM : Nat → Nat) (vT : Int64) (vM : Ob) (x1 : Int32) (x2 : Int32) (x3 : Int32) (x4 : Int32) (res : Int32) (h : m_X6_leastStep vM x1 x2 x3 x4 = some res) : Ct l yX6_leastStep wsX6_leastStep rm_X6_leastStep G cI cZ [.ref (aM 0), .int x1, .int x2, .int x3, .int x4] [oX6 aM vM vT, ai cI (aM 1) 70 (vM 1), ai cI (aM 3) 40 (vM 3), ai cI (aM 18) 427 (vM 18)] (some (.int res)) [oX6 aM vM vT, ai cI (aM 1) 70 (vM 1), ai cI (aM 3) 40 (vM 3), ai cI (aM 18) 427 (vM 18)] := by
  refine Ct.of_i (maxL := 6) (by decide) rfl (Nat.le_of_ble_eq_true rfl) ?_
  intro p e s m below meth c args hx hb hml hown hts A hA hEN hP hD hS Q hRet ls hl
  have hown : s.vm.findClass RX6 = some m.cls := hown
  have hl : lv_has ls 6 [(0, .ref (aM 0)), (1, .int x1), (2, .int x2), (3, .int x3), (4, .int x4)] := hl
  have L17 : ∀ (out : (Int32) ⊕ (Int32 × Int32 × Int32)), (∀ r : Int32, out = Sum.inl r → r = res) → (∀ ex : Int32 × Int32 × Int32, out = Sum.inr ex → ∀ (H : Heap) (locs : List Loc) (ls : Array Slot), va_P G vwCl [oX6 aM vM vT, ai cI (aM 1) 70 (vM 1), ai cI (aM 3) 40 (vM 3), ai cI (aM 18) 427 (vM 18)] H → va_D A [oX6 aM vM vT, ai cI (aM 1) 70 (vM 1), ai cI (aM 3) 40 (vM 3), ai cI (aM 18) 427 (vM 18)] → va_S A s.heap H locs → lv_has ls 6 [(0, .ref (aM 0)), (1, .int ex.1), (2, .int ex.2.1), (3, .int ex.2.2)] → W p l e rm_X6_leastStep s m args below meth c H locs 0 0 Q (F0 m 53 ls [])) → ∀ (n : Nat) (x1 : Int32) (x2 : Int32) (x3 : Int32) (x4 : Int32) (x5 : Int32), m_X6_leastStep_L17 vM n x1 x2 x3 x4 x5 = some out → ∀ (H : Heap) (locs : List Loc) (ls : Array Slot), va_P G vwCl [oX6 aM vM vT, ai cI (aM 1) 70 (vM 1), ai cI (aM 3) 40 (vM 3), ai cI (aM 18) 427 (vM 18)] H → va_D A [oX6 aM vM vT, ai cI (aM 1) 70 (vM 1), ai cI (aM 3) 40 (vM 3), ai cI (aM 18) 427 (vM 18)] → va_S A s.heap H locs → lv_has ls 6 [(0, .ref (aM 0)), (1, .int x1), (2, .int x2), (3, .int x3), (4, .int x4), (5, .int x5)] → W p l e rm_X6_leastStep s m args below meth c H locs 0 0 Q (F0 m 17 ls []) := by
    intro out hKr hKx
    intro n
    induction n with
    | zero => intro x1 x2 x3 x4 x5 h; exact nomatch (show (none : Option ((Int32) ⊕ (Int32 × Int32 × Int32))) = some out from h)
    | succ n hrc =>
      intro x1 x2 x3 x4 x5 h H locs ls hP hD hS hl
      have h : m_X6_leastStep_L17B vM (m_X6_leastStep_L17 vM n) x1 x2 x3 x4 x5 = some out := h
      generalize m_X6_leastStep_L17 vM n = rc at h hrc
      unfold m_X6_leastStep_L17B at h
      refine lv_iload hx hb dX6_leastStep_17 (lv_at hl 5 rfl) ?_
      refine lv_aload_n hx hb dX6_leastStep_19 rfl (lv_at hl 0 rfl) ?_
      refine va_get (D := G) (ci := 6) (v := .ref (aM 1)) (C := RX6) (T := TX6) (N := 29) hx hb hts fi_X6_leastStep_X6 hown hEN.1 hP 0 rfl rfl 0 (by decide) (hts (.fieldLink RX6 7 "HourWellModel" "tale" "[I") (List.mem_of_getElem? (i := 1) rfl)) (fun _ h9 => h9) rfl dX6_leastStep_20 ?_
      refine lv_iconst (v := (1 : Int32)) hx hb dX6_leastStep_23 k_iconst_1 ?_
      refine va_iald (f := (vM 1)) hx hb hEN.1 hP 1 0 rfl rfl (inb_in (i := (1 : Int32)) (n := 70) rfl) dX6_leastStep_24 ?_
      refine lv_icmp_ge (tgt := 53) hx hb dX6_leastStep_25 (by decide) (fun c25 => ?_) (fun c25 => ?_)
      · have h := (if_pos c25).symm.trans h
        exact hKx _ (Option.some.inj h).symm _ _ _ hP hD hS (lv_sub hl [0, 1, 2, 3] rfl)
      · have h := (if_neg c25).symm.trans h
        refine lv_aload_n hx hb dX6_leastStep_28 rfl (lv_at hl 0 rfl) ?_
        refine lv_iload_n hx hb dX6_leastStep_29 rfl (lv_at hl 1 rfl) ?_
        refine lv_iload_n hx hb dX6_leastStep_30 rfl (lv_at hl 2 rfl) ?_
        refine lv_iload_n hx hb dX6_leastStep_31 rfl (lv_at hl 3 rfl) ?_
        refine lv_iload hx hb dX6_leastStep_32 (lv_at hl 5 rfl) ?_
        refine lv_iload hx hb dX6_leastStep_34 (lv_at hl 4 rfl) ?_
        obtain ⟨o36, ho36, h⟩ := bnd_some h
        refine call_V0 (As := [.int x1, .int x2, .int x3, .int x5, .int x4]) (rest := []) ⟨hx, hb, hml, hown, hts⟩ (c_X6_leads l G cI cZ aM vT vM x1 x2 x3 x5 x4 o36 ho36) (cwV 5 hts gX6_leastStep_X6_leads rfl rfl rfl hdV_X6_leads ⟨Nat.le_of_ble_eq_true rfl, Nat.le_of_ble_eq_true rfl⟩) hEN hA hP hD hS [0, 1, 2, 3] rfl (by decide) 0 rfl rfl rfl hl.1 rfl (Nat.le_of_ble_eq_true rfl) dX6_leastStep_36 ⟨Nat.le_of_ble_eq_true rfl, Nat.le_of_ble_eq_true rfl⟩ (fun H locs hP hS => ?_)
        refine lv_if_eq (tgt := 47) hx hb dX6_leastStep_39 (by decide) (fun c39 => ?_) (fun c39 => ?_)
        · have h := (if_pos c39).symm.trans h
          refine lv_iinc (v := (x5 + (1 : Int32))) (lv' := [(5, .int (x5 + (1 : Int32))), (0, .ref (aM 0)), (1, .int x1), (2, .int x2), (3, .int x3), (4, .int x4)]) hx hb dX6_leastStep_47 hl (k := 5) rfl (congrArg (fun z => x5 + z) k_iconst_1) (by decide) rfl (fun ls hl => ?_)
          refine lv_goto (tgt := 17) hx hb dX6_leastStep_50 (by decide) ?_
          exact hrc x1 x2 x3 x4 (x5 + (1 : Int32)) h _ _ _ hP hD hS (lv_sub hl [1, 2, 3, 4, 5, 0] rfl)
        · have h := (if_neg c39).symm.trans h
          refine lv_iconst (v := (1 : Int32)) hx hb dX6_leastStep_42 k_iconst_1 ?_
          refine lv_iload hx hb dX6_leastStep_43 (lv_at hl 5 rfl) ?_
          refine lv_iadd hx hb dX6_leastStep_45 ?_
          have hres := hKr _ (Option.some.inj h).symm
          subst hres
          exact hRet 46 _ _ _ hP hD hS dX6_leastStep_46
  have L56 : ∀ (out : Int32), (∀ ex : Int32, out = ex → ∀ (H : Heap) (locs : List Loc) (ls : Array Slot), va_P G vwCl [oX6 aM vM vT, ai cI (aM 1) 70 (vM 1), ai cI (aM 3) 40 (vM 3), ai cI (aM 18) 427 (vM 18)] H → va_D A [oX6 aM vM vT, ai cI (aM 1) 70 (vM 1), ai cI (aM 3) 40 (vM 3), ai cI (aM 18) 427 (vM 18)] → va_S A s.heap H locs → lv_has ls 6 [(5, .int ex)] → W p l e rm_X6_leastStep s m args below meth c H locs 0 0 Q (F0 m 74 ls [])) → ∀ (n : Nat) (x1 : Int32) (x2 : Int32) (x3 : Int32) (x5 : Int32), m_X6_leastStep_L56 vM n x1 x2 x3 x5 = some out → ∀ (H : Heap) (locs : List Loc) (ls : Array Slot), va_P G vwCl [oX6 aM vM vT, ai cI (aM 1) 70 (vM 1), ai cI (aM 3) 40 (vM 3), ai cI (aM 18) 427 (vM 18)] H → va_D A [oX6 aM vM vT, ai cI (aM 1) 70 (vM 1), ai cI (aM 3) 40 (vM 3), ai cI (aM 18) 427 (vM 18)] → va_S A s.heap H locs → lv_has ls 6 [(0, .ref (aM 0)), (1, .int x1), (2, .int x2), (3, .int x3), (5, .int x5)] → W p l e rm_X6_leastStep s m args below meth c H locs 0 0 Q (F0 m 56 ls []) := by
    intro out hKx
    intro n
    induction n with
    | zero => intro x1 x2 x3 x5 h; exact nomatch (show (none : Option (Int32)) = some out from h)
    | succ n hrc =>
      intro x1 x2 x3 x5 h H locs ls hP hD hS hl
      have h : m_X6_leastStep_L56B vM (m_X6_leastStep_L56 vM n) x1 x2 x3 x5 = some out := h
      generalize m_X6_leastStep_L56 vM n = rc at h hrc
      unfold m_X6_leastStep_L56B at h
      refine lv_aload_n hx hb dX6_leastStep_56 rfl (lv_at hl 0 rfl) ?_
      refine lv_iload_n hx hb dX6_leastStep_57 rfl (lv_at hl 1 rfl) ?_
      refine lv_iload_n hx hb dX6_leastStep_58 rfl (lv_at hl 2 rfl) ?_
      refine lv_iload_n hx hb dX6_leastStep_59 rfl (lv_at hl 3 rfl) ?_
      refine lv_iload hx hb dX6_leastStep_60 (lv_at hl 4 rfl) ?_
      obtain ⟨o62, ho62, h⟩ := bnd_some h
      refine call_V0 (As := [.int x1, .int x2, .int x3, .int x5]) (rest := []) ⟨hx, hb, hml, hown, hts⟩ (c_X6_asksOn l G cI cZ aM vT vM x1 x2 x3 x5 o62 ho62) (cwV 4 hts gX6_leastStep_X6_asksOn rfl rfl rfl hdV_X6_asksOn ⟨Nat.le_of_ble_eq_true rfl, Nat.le_of_ble_eq_true rfl⟩) hEN hA hP hD hS [0, 1, 3] rfl (by decide) 0 rfl rfl rfl hl.1 rfl (Nat.le_of_ble_eq_true rfl) dX6_leastStep_62 ⟨Nat.le_of_ble_eq_true rfl, Nat.le_of_ble_eq_true rfl⟩ (fun H locs hP hS => ?_)
      refine lv_if_ne (tgt := 74) hx hb dX6_leastStep_65 (by decide) (fun c65 => ?_) (fun c65 => ?_)
      · have h := (if_neg c65).symm.trans h
        exact hKx _ (Option.some.inj h).symm _ _ _ hP hD hS (lv_sub hl [4] rfl)
      · have h := (if_pos c65).symm.trans h
        refine lv_iinc (v := (x5 + (1 : Int32))) (lv' := [(5, .int (x5 + (1 : Int32))), (0, .ref (aM 0)), (1, .int x1), (2, .int x2), (3, .int x3)]) hx hb dX6_leastStep_68 hl (k := 4) rfl (congrArg (fun z => x5 + z) k_iconst_1) (by decide) rfl (fun ls hl => ?_)
        refine lv_goto (tgt := 56) hx hb dX6_leastStep_71 (by decide) ?_
        exact hrc x1 x2 x3 (x5 + (1 : Int32)) h _ _ _ hP hD hS (lv_sub hl [1, 2, 3, 4, 0] rfl)
  unfold m_X6_leastStep at h
  refine lv_aload_n hx hb dX6_leastStep_0 rfl (lv_at hl 0 rfl) ?_
  refine lv_iload_n hx hb dX6_leastStep_1 rfl (lv_at hl 1 rfl) ?_
  refine lv_iload_n hx hb dX6_leastStep_2 rfl (lv_at hl 2 rfl) ?_
  refine lv_iload_n hx hb dX6_leastStep_3 rfl (lv_at hl 3 rfl) ?_
  refine lv_iload hx hb dX6_leastStep_4 (lv_at hl 4 rfl) ?_
  obtain ⟨o6, ho6, h⟩ := bnd_some h
  refine call_V0 (As := [.int x1, .int x2, .int x3, .int x4]) (rest := []) ⟨hx, hb, hml, hown, hts⟩ (c_X6_waitsOn l G cI cZ aM vT vM x1 x2 x3 x4 o6 ho6) (cwV 4 hts gX6_leastStep_X6_waitsOn rfl rfl rfl hdV_X6_waitsOn ⟨Nat.le_of_ble_eq_true rfl, Nat.le_of_ble_eq_true rfl⟩) hEN hA hP hD hS [0, 3] rfl (by decide) 0 rfl rfl rfl hl.1 rfl (Nat.le_of_ble_eq_true rfl) dX6_leastStep_6 ⟨Nat.le_of_ble_eq_true rfl, Nat.le_of_ble_eq_true rfl⟩ (fun H locs hP hS => ?_)
  refine lv_if_eq (tgt := 14) hx hb dX6_leastStep_9 (by decide) (fun c9 => ?_) (fun c9 => ?_)
  · have h := (if_pos c9).symm.trans h
    refine lv_iconst (v := (0 : Int32)) hx hb dX6_leastStep_14 k_iconst_0 ?_
    refine lv_istore (lv' := [(5, .int (0 : Int32)), (0, .ref (aM 0)), (1, .int x1), (2, .int x2), (3, .int x3), (4, .int x4)]) hx hb dX6_leastStep_15 hl (by decide) rfl (fun ls hl => ?_)
    obtain ⟨o17_1, ho17_1, h⟩ := bnd_some h
    refine L17 o17_1 (fun r er => ?_) (fun o17_1x er H locs ls hP hD hS hl => ?_) FU x1 x2 x3 x4 (0 : Int32) ho17_1 _ _ _ hP hD hS (lv_sub hl [1, 2, 3, 4, 5, 0] rfl)
    · subst er
      have h := (sm_l _ _ _).symm.trans h
      exact Option.some.inj h
    · subst er
      have h := (sm_r _ _ _).symm.trans h
      refine lv_iconst (v := (0 : Int32)) hx hb dX6_leastStep_53 k_iconst_0 ?_
      refine lv_istore (lv' := [(5, .int (0 : Int32)), (0, .ref (aM 0)), (1, .int o17_1x.1), (2, .int o17_1x.2.1), (3, .int o17_1x.2.2)]) hx hb dX6_leastStep_54 hl (by decide) rfl (fun ls hl => ?_)
      obtain ⟨o56_2, ho56_2, h⟩ := bnd_some h
      refine L56 o56_2 (fun o56_2e er H locs ls hP hD hS hl => ?_) FU o17_1x.1 o17_1x.2.1 o17_1x.2.2 (0 : Int32) ho56_2 _ _ _ hP hD hS (lv_sub hl [1, 2, 3, 4, 0] rfl)
      subst er
      refine lv_bipush (v := (11 : Int32)) hx hb dX6_leastStep_74 k_bipush_11 ?_
      refine lv_iload hx hb dX6_leastStep_76 (lv_at hl 0 rfl) ?_
      refine lv_iadd hx hb dX6_leastStep_78 ?_
      have hres := Option.some.inj h
      subst hres
      exact hRet 79 _ _ _ hP hD hS dX6_leastStep_79
  · have h := (if_neg c9).symm.trans h
    refine lv_iconst (v := (0 : Int32)) hx hb dX6_leastStep_12 k_iconst_0 ?_
    have hres := Option.some.inj h
    subst hres
    exact hRet 13 _ _ _ hP hD hS dX6_leastStep_13
abbrev rm_X6_layRow : Room := { frames := 4, cells := 0, slots := 0, locals := 100 }
theorem fi_X6_layRow_X6 : ∀ w ∈ wsX60, w ∈ wsX6_layRow := fun _ h => List.mem_cons_of_mem _ (List.mem_append_right _ h)
theorem hdV_X6_layRow : yX6_layRow.cls = RX6 ∧ yX6_layRow.cls ≠ "java/lang/invoke/MethodHandle" ∧ yX6_layRow.cls ≠ "java/lang/invoke/VarHandle" ∧ (parseMethodDescriptor yX6_layRow.desc).map (fun d => d.parameters.length) = some 2 := by decide +kernel
set_option maxRecDepth 100000 in
set_option maxHeartbeats 4000000 in
theorem c_X6_layRow (l : Launch) (G : va_G) (cI cZ : ClassId) (aM : Nat → Nat) (vT : Int64) (vM : Ob) (x1 : Int32) (x2 : Int32) (res : Ob) (h : m_X6_layRow vM x1 x2 = some res) : Ct l yX6_layRow wsX6_layRow rm_X6_layRow G cI cZ [.ref (aM 0), .int x1, .int x2] [oX6 aM vM vT, ai cI (aM 1) 70 (vM 1), ai cI (aM 2) 70 (vM 2), ai cI (aM 3) 40 (vM 3), ai cI (aM 4) 80 (vM 4), ai cZ (aM 5) 2 (vM 5), ai cI (aM 6) 200 (vM 6), ai cI (aM 8) 12 (vM 8), ai cI (aM 10) 12 (vM 10), ai cI (aM 18) 427 (vM 18), ai cI (aM 21) 100 (vM 21), ai cI (aM 23) 100 (vM 23), ai cI (aM 24) 100 (vM 24), ai cI (aM 26) 7 (vM 26), ai cI (aM 27) 5 (vM 27), ai cI (aM 28) 64 (vM 28)] none [oX6 aM res vT, ai cI (aM 1) 70 (res 1), ai cI (aM 2) 70 (res 2), ai cI (aM 3) 40 (res 3), ai cI (aM 4) 80 (res 4), ai cZ (aM 5) 2 (res 5), ai cI (aM 6) 200 (res 6), ai cI (aM 8) 12 (res 8), ai cI (aM 10) 12 (res 10), ai cI (aM 18) 427 (res 18), ai cI (aM 21) 100 (res 21), ai cI (aM 23) 100 (res 23), ai cI (aM 24) 100 (res 24), ai cI (aM 26) 7 (res 26), ai cI (aM 27) 5 (res 27), ai cI (aM 28) 64 (res 28)] := by
  refine Ct.of_v (maxL := 8) (by decide) rfl (Nat.le_of_ble_eq_true rfl) ?_
  intro p e s m below meth c args hx hb hml hown hts A hA hEN hP hD hS Q hRet ls hl
  have hown : s.vm.findClass RX6 = some m.cls := hown
  have hl : lv_has ls 8 [(0, .ref (aM 0)), (1, .int x1), (2, .int x2)] := hl
  have L28 : ∀ (out : Ob), (∀ ex : Ob, out = ex → ∀ (H : Heap) (locs : List Loc) (ls : Array Slot), va_P G vwCl [oX6 aM ex vT, ai cI (aM 1) 70 (ex 1), ai cI (aM 2) 70 (ex 2), ai cI (aM 3) 40 (ex 3), ai cI (aM 4) 80 (ex 4), ai cZ (aM 5) 2 (ex 5), ai cI (aM 6) 200 (ex 6), ai cI (aM 8) 12 (ex 8), ai cI (aM 10) 12 (ex 10), ai cI (aM 18) 427 (ex 18), ai cI (aM 21) 100 (ex 21), ai cI (aM 23) 100 (ex 23), ai cI (aM 24) 100 (ex 24), ai cI (aM 26) 7 (ex 26), ai cI (aM 27) 5 (ex 27), ai cI (aM 28) 64 (ex 28)] H → va_D A [oX6 aM ex vT, ai cI (aM 1) 70 (ex 1), ai cI (aM 2) 70 (ex 2), ai cI (aM 3) 40 (ex 3), ai cI (aM 4) 80 (ex 4), ai cZ (aM 5) 2 (ex 5), ai cI (aM 6) 200 (ex 6), ai cI (aM 8) 12 (ex 8), ai cI (aM 10) 12 (ex 10), ai cI (aM 18) 427 (ex 18), ai cI (aM 21) 100 (ex 21), ai cI (aM 23) 100 (ex 23), ai cI (aM 24) 100 (ex 24), ai cI (aM 26) 7 (ex 26), ai cI (aM 27) 5 (ex 27), ai cI (aM 28) 64 (ex 28)] → va_S A s.heap H locs → lv_has ls 8 [] → W p l e rm_X6_layRow s m args below meth c H locs 0 0 Q (F0 m 216 ls [])) → ∀ (n : Nat) (vM : Ob) (x1 : Int32) (x2 : Int32) (x3 : Int32) (x4 : Int32) (x5 : Int32), m_X6_layRow_L28  n vM x1 x2 x3 x4 x5 = some out → ∀ (H : Heap) (locs : List Loc) (ls : Array Slot), va_P G vwCl [oX6 aM vM vT, ai cI (aM 1) 70 (vM 1), ai cI (aM 2) 70 (vM 2), ai cI (aM 3) 40 (vM 3), ai cI (aM 4) 80 (vM 4), ai cZ (aM 5) 2 (vM 5), ai cI (aM 6) 200 (vM 6), ai cI (aM 8) 12 (vM 8), ai cI (aM 10) 12 (vM 10), ai cI (aM 18) 427 (vM 18), ai cI (aM 21) 100 (vM 21), ai cI (aM 23) 100 (vM 23), ai cI (aM 24) 100 (vM 24), ai cI (aM 26) 7 (vM 26), ai cI (aM 27) 5 (vM 27), ai cI (aM 28) 64 (vM 28)] H → va_D A [oX6 aM vM vT, ai cI (aM 1) 70 (vM 1), ai cI (aM 2) 70 (vM 2), ai cI (aM 3) 40 (vM 3), ai cI (aM 4) 80 (vM 4), ai cZ (aM 5) 2 (vM 5), ai cI (aM 6) 200 (vM 6), ai cI (aM 8) 12 (vM 8), ai cI (aM 10) 12 (vM 10), ai cI (aM 18) 427 (vM 18), ai cI (aM 21) 100 (vM 21), ai cI (aM 23) 100 (vM 23), ai cI (aM 24) 100 (vM 24), ai cI (aM 26) 7 (vM 26), ai cI (aM 27) 5 (vM 27), ai cI (aM 28) 64 (vM 28)] → va_S A s.heap H locs → lv_has ls 8 [(0, .ref (aM 0)), (1, .int x1), (2, .int x2), (3, .int x3), (4, .int x4), (5, .int x5)] → W p l e rm_X6_layRow s m args below meth c H locs 0 0 Q (F0 m 28 ls []) := by
    intro out hKx
    have j213 : ∀ (rc : Ob → Int32 → Int32 → Int32 → Int32 → Int32 → Option (Ob)), (∀ (vM : Ob) (x1 : Int32) (x2 : Int32) (x3 : Int32) (x4 : Int32) (x5 : Int32), rc vM x1 x2 x3 x4 x5 = some out → ∀ (H : Heap) (locs : List Loc) (ls : Array Slot), va_P G vwCl [oX6 aM vM vT, ai cI (aM 1) 70 (vM 1), ai cI (aM 2) 70 (vM 2), ai cI (aM 3) 40 (vM 3), ai cI (aM 4) 80 (vM 4), ai cZ (aM 5) 2 (vM 5), ai cI (aM 6) 200 (vM 6), ai cI (aM 8) 12 (vM 8), ai cI (aM 10) 12 (vM 10), ai cI (aM 18) 427 (vM 18), ai cI (aM 21) 100 (vM 21), ai cI (aM 23) 100 (vM 23), ai cI (aM 24) 100 (vM 24), ai cI (aM 26) 7 (vM 26), ai cI (aM 27) 5 (vM 27), ai cI (aM 28) 64 (vM 28)] H → va_D A [oX6 aM vM vT, ai cI (aM 1) 70 (vM 1), ai cI (aM 2) 70 (vM 2), ai cI (aM 3) 40 (vM 3), ai cI (aM 4) 80 (vM 4), ai cZ (aM 5) 2 (vM 5), ai cI (aM 6) 200 (vM 6), ai cI (aM 8) 12 (vM 8), ai cI (aM 10) 12 (vM 10), ai cI (aM 18) 427 (vM 18), ai cI (aM 21) 100 (vM 21), ai cI (aM 23) 100 (vM 23), ai cI (aM 24) 100 (vM 24), ai cI (aM 26) 7 (vM 26), ai cI (aM 27) 5 (vM 27), ai cI (aM 28) 64 (vM 28)] → va_S A s.heap H locs → lv_has ls 8 [(0, .ref (aM 0)), (1, .int x1), (2, .int x2), (3, .int x3), (4, .int x4), (5, .int x5)] → W p l e rm_X6_layRow s m args below meth c H locs 0 0 Q (F0 m 28 ls [])) → ∀ (vM : Ob) (x1 : Int32) (x2 : Int32) (x3 : Int32) (x4 : Int32) (x5 : Int32), m_X6_layRow_j213  rc vM x1 x2 x3 x4 x5 = some out → ∀ (H : Heap) (locs : List Loc) (ls : Array Slot), va_P G vwCl [oX6 aM vM vT, ai cI (aM 1) 70 (vM 1), ai cI (aM 2) 70 (vM 2), ai cI (aM 3) 40 (vM 3), ai cI (aM 4) 80 (vM 4), ai cZ (aM 5) 2 (vM 5), ai cI (aM 6) 200 (vM 6), ai cI (aM 8) 12 (vM 8), ai cI (aM 10) 12 (vM 10), ai cI (aM 18) 427 (vM 18), ai cI (aM 21) 100 (vM 21), ai cI (aM 23) 100 (vM 23), ai cI (aM 24) 100 (vM 24), ai cI (aM 26) 7 (vM 26), ai cI (aM 27) 5 (vM 27), ai cI (aM 28) 64 (vM 28)] H → va_D A [oX6 aM vM vT, ai cI (aM 1) 70 (vM 1), ai cI (aM 2) 70 (vM 2), ai cI (aM 3) 40 (vM 3), ai cI (aM 4) 80 (vM 4), ai cZ (aM 5) 2 (vM 5), ai cI (aM 6) 200 (vM 6), ai cI (aM 8) 12 (vM 8), ai cI (aM 10) 12 (vM 10), ai cI (aM 18) 427 (vM 18), ai cI (aM 21) 100 (vM 21), ai cI (aM 23) 100 (vM 23), ai cI (aM 24) 100 (vM 24), ai cI (aM 26) 7 (vM 26), ai cI (aM 27) 5 (vM 27), ai cI (aM 28) 64 (vM 28)] → va_S A s.heap H locs → lv_has ls 8 [(0, .ref (aM 0)), (1, .int x1), (2, .int x2), (3, .int x3), (4, .int x4), (5, .int x5)] → W p l e rm_X6_layRow s m args below meth c H locs 0 0 Q (F0 m 213 ls []) := by
      intro rc hrc vM x1 x2 x3 x4 x5 h H locs ls hP hD hS hl
      unfold m_X6_layRow_j213 at h
      refine lv_goto (tgt := 28) hx hb dX6_layRow_213 (by decide) ?_
      exact hrc vM x1 x2 x3 x4 x5 h _ _ _ hP hD hS (lv_sub hl [0, 1, 2, 3, 4, 5] rfl)
    have j209 : ∀ (rc : Ob → Int32 → Int32 → Int32 → Int32 → Int32 → Option (Ob)), (∀ (vM : Ob) (x1 : Int32) (x2 : Int32) (x3 : Int32) (x4 : Int32) (x5 : Int32), rc vM x1 x2 x3 x4 x5 = some out → ∀ (H : Heap) (locs : List Loc) (ls : Array Slot), va_P G vwCl [oX6 aM vM vT, ai cI (aM 1) 70 (vM 1), ai cI (aM 2) 70 (vM 2), ai cI (aM 3) 40 (vM 3), ai cI (aM 4) 80 (vM 4), ai cZ (aM 5) 2 (vM 5), ai cI (aM 6) 200 (vM 6), ai cI (aM 8) 12 (vM 8), ai cI (aM 10) 12 (vM 10), ai cI (aM 18) 427 (vM 18), ai cI (aM 21) 100 (vM 21), ai cI (aM 23) 100 (vM 23), ai cI (aM 24) 100 (vM 24), ai cI (aM 26) 7 (vM 26), ai cI (aM 27) 5 (vM 27), ai cI (aM 28) 64 (vM 28)] H → va_D A [oX6 aM vM vT, ai cI (aM 1) 70 (vM 1), ai cI (aM 2) 70 (vM 2), ai cI (aM 3) 40 (vM 3), ai cI (aM 4) 80 (vM 4), ai cZ (aM 5) 2 (vM 5), ai cI (aM 6) 200 (vM 6), ai cI (aM 8) 12 (vM 8), ai cI (aM 10) 12 (vM 10), ai cI (aM 18) 427 (vM 18), ai cI (aM 21) 100 (vM 21), ai cI (aM 23) 100 (vM 23), ai cI (aM 24) 100 (vM 24), ai cI (aM 26) 7 (vM 26), ai cI (aM 27) 5 (vM 27), ai cI (aM 28) 64 (vM 28)] → va_S A s.heap H locs → lv_has ls 8 [(0, .ref (aM 0)), (1, .int x1), (2, .int x2), (3, .int x3), (4, .int x4), (5, .int x5)] → W p l e rm_X6_layRow s m args below meth c H locs 0 0 Q (F0 m 28 ls [])) → ∀ (vM : Ob) (x1 : Int32) (x2 : Int32) (x3 : Int32) (x4 : Int32) (x5 : Int32) (s1 : Int32) (s2 : Int32), m_X6_layRow_j209  rc vM x1 x2 x3 x4 x5 s1 s2 = some out → ∀ (H : Heap) (locs : List Loc) (ls : Array Slot), va_P G vwCl [oX6 aM vM vT, ai cI (aM 1) 70 (vM 1), ai cI (aM 2) 70 (vM 2), ai cI (aM 3) 40 (vM 3), ai cI (aM 4) 80 (vM 4), ai cZ (aM 5) 2 (vM 5), ai cI (aM 6) 200 (vM 6), ai cI (aM 8) 12 (vM 8), ai cI (aM 10) 12 (vM 10), ai cI (aM 18) 427 (vM 18), ai cI (aM 21) 100 (vM 21), ai cI (aM 23) 100 (vM 23), ai cI (aM 24) 100 (vM 24), ai cI (aM 26) 7 (vM 26), ai cI (aM 27) 5 (vM 27), ai cI (aM 28) 64 (vM 28)] H → va_D A [oX6 aM vM vT, ai cI (aM 1) 70 (vM 1), ai cI (aM 2) 70 (vM 2), ai cI (aM 3) 40 (vM 3), ai cI (aM 4) 80 (vM 4), ai cZ (aM 5) 2 (vM 5), ai cI (aM 6) 200 (vM 6), ai cI (aM 8) 12 (vM 8), ai cI (aM 10) 12 (vM 10), ai cI (aM 18) 427 (vM 18), ai cI (aM 21) 100 (vM 21), ai cI (aM 23) 100 (vM 23), ai cI (aM 24) 100 (vM 24), ai cI (aM 26) 7 (vM 26), ai cI (aM 27) 5 (vM 27), ai cI (aM 28) 64 (vM 28)] → va_S A s.heap H locs → lv_has ls 8 [(0, .ref (aM 0)), (1, .int x1), (2, .int x2), (3, .int x3), (4, .int x4), (5, .int x5)] → W p l e rm_X6_layRow s m args below meth c H locs 0 0 Q (F0 m 209 ls [.int s2, .int s1, .ref (aM 0)]) := by
      intro rc hrc vM x1 x2 x3 x4 x5 s1 s2 h H locs ls hP hD hS hl
      unfold m_X6_layRow_j209 at h
      refine lv_iadd hx hb dX6_layRow_209 ?_
      refine va_put (D := G) (ci := 6) (v := .int (s1 + s2)) (ty := .int) (C := RX6) (T := TX6) (N := 29) hx hb hts fi_X6_layRow_X6 tyX6 tyX6_ok nmX6 hown hEN.1 hP hD hS 0 rfl rfl 24 (by decide) (hts (.fieldLink RX6 224 "HourWellModel" "enteredMany" "I") (List.mem_of_getElem? (i := 3) rfl)) (fun _ h9 => h9) rfl (by decide +kernel) rfl rfl (Nat.le_of_ble_eq_true rfl) dX6_layRow_210 (fun H locs hP hD hS => ?_)
      have hP : va_P G vwCl [oX6 aM (st vM 0 24 (s1 + s2)) vT, ai cI (aM 1) 70 (vM 1), ai cI (aM 2) 70 (vM 2), ai cI (aM 3) 40 (vM 3), ai cI (aM 4) 80 (vM 4), ai cZ (aM 5) 2 (vM 5), ai cI (aM 6) 200 (vM 6), ai cI (aM 8) 12 (vM 8), ai cI (aM 10) 12 (vM 10), ai cI (aM 18) 427 (vM 18), ai cI (aM 21) 100 (vM 21), ai cI (aM 23) 100 (vM 23), ai cI (aM 24) 100 (vM 24), ai cI (aM 26) 7 (vM 26), ai cI (aM 27) 5 (vM 27), ai cI (aM 28) 64 (vM 28)] H := hP
      have hD : va_D A [oX6 aM (st vM 0 24 (s1 + s2)) vT, ai cI (aM 1) 70 (vM 1), ai cI (aM 2) 70 (vM 2), ai cI (aM 3) 40 (vM 3), ai cI (aM 4) 80 (vM 4), ai cZ (aM 5) 2 (vM 5), ai cI (aM 6) 200 (vM 6), ai cI (aM 8) 12 (vM 8), ai cI (aM 10) 12 (vM 10), ai cI (aM 18) 427 (vM 18), ai cI (aM 21) 100 (vM 21), ai cI (aM 23) 100 (vM 23), ai cI (aM 24) 100 (vM 24), ai cI (aM 26) 7 (vM 26), ai cI (aM 27) 5 (vM 27), ai cI (aM 28) 64 (vM 28)] := hD
      exact j213 rc hrc (st vM 0 24 (s1 + s2)) x1 x2 x3 x4 x5 h _ _ _ hP hD hS (lv_sub hl [0, 1, 2, 3, 4, 5] rfl)
    have j47 : ∀ (rc : Ob → Int32 → Int32 → Int32 → Int32 → Int32 → Option (Ob)), (∀ (vM : Ob) (x1 : Int32) (x2 : Int32) (x3 : Int32) (x4 : Int32) (x5 : Int32), rc vM x1 x2 x3 x4 x5 = some out → ∀ (H : Heap) (locs : List Loc) (ls : Array Slot), va_P G vwCl [oX6 aM vM vT, ai cI (aM 1) 70 (vM 1), ai cI (aM 2) 70 (vM 2), ai cI (aM 3) 40 (vM 3), ai cI (aM 4) 80 (vM 4), ai cZ (aM 5) 2 (vM 5), ai cI (aM 6) 200 (vM 6), ai cI (aM 8) 12 (vM 8), ai cI (aM 10) 12 (vM 10), ai cI (aM 18) 427 (vM 18), ai cI (aM 21) 100 (vM 21), ai cI (aM 23) 100 (vM 23), ai cI (aM 24) 100 (vM 24), ai cI (aM 26) 7 (vM 26), ai cI (aM 27) 5 (vM 27), ai cI (aM 28) 64 (vM 28)] H → va_D A [oX6 aM vM vT, ai cI (aM 1) 70 (vM 1), ai cI (aM 2) 70 (vM 2), ai cI (aM 3) 40 (vM 3), ai cI (aM 4) 80 (vM 4), ai cZ (aM 5) 2 (vM 5), ai cI (aM 6) 200 (vM 6), ai cI (aM 8) 12 (vM 8), ai cI (aM 10) 12 (vM 10), ai cI (aM 18) 427 (vM 18), ai cI (aM 21) 100 (vM 21), ai cI (aM 23) 100 (vM 23), ai cI (aM 24) 100 (vM 24), ai cI (aM 26) 7 (vM 26), ai cI (aM 27) 5 (vM 27), ai cI (aM 28) 64 (vM 28)] → va_S A s.heap H locs → lv_has ls 8 [(0, .ref (aM 0)), (1, .int x1), (2, .int x2), (3, .int x3), (4, .int x4), (5, .int x5)] → W p l e rm_X6_layRow s m args below meth c H locs 0 0 Q (F0 m 28 ls [])) → ∀ (vM : Ob) (x1 : Int32) (x2 : Int32) (x3 : Int32) (x4 : Int32) (x5 : Int32), m_X6_layRow_j47  rc vM x1 x2 x3 x4 x5 = some out → ∀ (H : Heap) (locs : List Loc) (ls : Array Slot), va_P G vwCl [oX6 aM vM vT, ai cI (aM 1) 70 (vM 1), ai cI (aM 2) 70 (vM 2), ai cI (aM 3) 40 (vM 3), ai cI (aM 4) 80 (vM 4), ai cZ (aM 5) 2 (vM 5), ai cI (aM 6) 200 (vM 6), ai cI (aM 8) 12 (vM 8), ai cI (aM 10) 12 (vM 10), ai cI (aM 18) 427 (vM 18), ai cI (aM 21) 100 (vM 21), ai cI (aM 23) 100 (vM 23), ai cI (aM 24) 100 (vM 24), ai cI (aM 26) 7 (vM 26), ai cI (aM 27) 5 (vM 27), ai cI (aM 28) 64 (vM 28)] H → va_D A [oX6 aM vM vT, ai cI (aM 1) 70 (vM 1), ai cI (aM 2) 70 (vM 2), ai cI (aM 3) 40 (vM 3), ai cI (aM 4) 80 (vM 4), ai cZ (aM 5) 2 (vM 5), ai cI (aM 6) 200 (vM 6), ai cI (aM 8) 12 (vM 8), ai cI (aM 10) 12 (vM 10), ai cI (aM 18) 427 (vM 18), ai cI (aM 21) 100 (vM 21), ai cI (aM 23) 100 (vM 23), ai cI (aM 24) 100 (vM 24), ai cI (aM 26) 7 (vM 26), ai cI (aM 27) 5 (vM 27), ai cI (aM 28) 64 (vM 28)] → va_S A s.heap H locs → lv_has ls 8 [(0, .ref (aM 0)), (1, .int x1), (2, .int x2), (3, .int x3), (4, .int x4), (5, .int x5)] → W p l e rm_X6_layRow s m args below meth c H locs 0 0 Q (F0 m 47 ls []) := by
      intro rc hrc vM x1 x2 x3 x4 x5 h H locs ls hP hD hS hl
      unfold m_X6_layRow_j47 at h
      refine lv_aload_n hx hb dX6_layRow_47 rfl (lv_at hl 0 rfl) ?_
      refine lv_iload_n hx hb dX6_layRow_48 rfl (lv_at hl 3 rfl) ?_
      refine lv_iload hx hb dX6_layRow_49 (lv_at hl 4 rfl) ?_
      refine lv_iload hx hb dX6_layRow_51 (lv_at hl 5 rfl) ?_
      refine lv_iload_n hx hb dX6_layRow_53 rfl (lv_at hl 2 rfl) ?_
      obtain ⟨o54, ho54, h⟩ := bnd_some h
      refine call_V0 (As := [.int x3, .int x4, .int x5, .int x2]) (rest := []) ⟨hx, hb, hml, hown, hts⟩ (c_X6_leastStep l G cI cZ aM vT vM x3 x4 x5 x2 o54 ho54) (cwV 4 hts gX6_layRow_X6_leastStep rfl rfl rfl hdV_X6_leastStep ⟨Nat.le_of_ble_eq_true rfl, Nat.le_of_ble_eq_true rfl⟩) hEN hA hP hD hS [0, 1, 3, 9] rfl (by decide) 0 rfl rfl rfl hl.1 rfl (Nat.le_of_ble_eq_true rfl) dX6_layRow_54 ⟨Nat.le_of_ble_eq_true rfl, Nat.le_of_ble_eq_true rfl⟩ (fun H locs hP hS => ?_)
      refine lv_istore (lv' := [(6, .int o54), (0, .ref (aM 0)), (1, .int x1), (2, .int x2), (3, .int x3), (4, .int x4), (5, .int x5)]) hx hb dX6_layRow_57 hl (by decide) rfl (fun ls hl => ?_)
      refine lv_aload_n hx hb dX6_layRow_59 rfl (lv_at hl 1 rfl) ?_
      refine va_get (D := G) (ci := 6) (v := .ref (aM 21)) (C := RX6) (T := TX6) (N := 29) hx hb hts fi_X6_layRow_X6 hown hEN.1 hP 0 rfl rfl 20 (by decide) (hts (.fieldLink RX6 38 "HourWellModel" "steps" "[I") (List.mem_of_getElem? (i := 4) rfl)) (fun _ h9 => h9) rfl dX6_layRow_60 ?_
      refine lv_aload_n hx hb dX6_layRow_63 rfl (lv_at hl 1 rfl) ?_
      refine va_get (D := G) (ci := 6) (v := .int (vM 0 21)) (C := RX6) (T := TX6) (N := 29) hx hb hts fi_X6_layRow_X6 hown hEN.1 hP 0 rfl rfl 21 (by decide) (hts (.fieldLink RX6 221 "HourWellModel" "stepMany" "I") (List.mem_of_getElem? (i := 2) rfl)) (fun _ h9 => h9) rfl dX6_layRow_64 ?_
      refine lv_iload hx hb dX6_layRow_67 (lv_at hl 0 rfl) ?_
      obtain ⟨hg69, h⟩ := grd_some h
      refine va_iast (f := (vM 21)) hx hb hEN.1 hP hD hS 10 0 rfl rfl (inb_in hg69) dX6_layRow_69 (fun H locs hP hD hS => ?_)
      have hP : va_P G vwCl [oX6 aM vM vT, ai cI (aM 1) 70 (vM 1), ai cI (aM 2) 70 (vM 2), ai cI (aM 3) 40 (vM 3), ai cI (aM 4) 80 (vM 4), ai cZ (aM 5) 2 (vM 5), ai cI (aM 6) 200 (vM 6), ai cI (aM 8) 12 (vM 8), ai cI (aM 10) 12 (vM 10), ai cI (aM 18) 427 (vM 18), ai cI (aM 21) 100 (upd (vM 21) (Int32.toNatClampNeg (vM 0 21)) o54), ai cI (aM 23) 100 (vM 23), ai cI (aM 24) 100 (vM 24), ai cI (aM 26) 7 (vM 26), ai cI (aM 27) 5 (vM 27), ai cI (aM 28) 64 (vM 28)] H := hP
      have hD : va_D A [oX6 aM vM vT, ai cI (aM 1) 70 (vM 1), ai cI (aM 2) 70 (vM 2), ai cI (aM 3) 40 (vM 3), ai cI (aM 4) 80 (vM 4), ai cZ (aM 5) 2 (vM 5), ai cI (aM 6) 200 (vM 6), ai cI (aM 8) 12 (vM 8), ai cI (aM 10) 12 (vM 10), ai cI (aM 18) 427 (vM 18), ai cI (aM 21) 100 (upd (vM 21) (Int32.toNatClampNeg (vM 0 21)) o54), ai cI (aM 23) 100 (vM 23), ai cI (aM 24) 100 (vM 24), ai cI (aM 26) 7 (vM 26), ai cI (aM 27) 5 (vM 27), ai cI (aM 28) 64 (vM 28)] := hD
      refine lv_aload_n hx hb dX6_layRow_70 rfl (lv_at hl 1 rfl) ?_
      refine lv_dup hx hb dX6_layRow_71 rfl ?_
      refine va_get (D := G) (ci := 6) (v := .int (vM 0 21)) (C := RX6) (T := TX6) (N := 29) hx hb hts fi_X6_layRow_X6 hown hEN.1 hP 0 rfl rfl 21 (by decide) (hts (.fieldLink RX6 221 "HourWellModel" "stepMany" "I") (List.mem_of_getElem? (i := 2) rfl)) (fun _ h9 => h9) rfl dX6_layRow_72 ?_
      refine lv_iconst (v := (1 : Int32)) hx hb dX6_layRow_75 k_iconst_1 ?_
      refine lv_iadd hx hb dX6_layRow_76 ?_
      refine va_put (D := G) (ci := 6) (v := .int ((vM 0 21) + (1 : Int32))) (ty := .int) (C := RX6) (T := TX6) (N := 29) hx hb hts fi_X6_layRow_X6 tyX6 tyX6_ok nmX6 hown hEN.1 hP hD hS 0 rfl rfl 21 (by decide) (hts (.fieldLink RX6 221 "HourWellModel" "stepMany" "I") (List.mem_of_getElem? (i := 2) rfl)) (fun _ h9 => h9) rfl (by decide +kernel) rfl rfl (Nat.le_of_ble_eq_true rfl) dX6_layRow_77 (fun H locs hP hD hS => ?_)
      have hP : va_P G vwCl [oX6 aM (st vM 0 21 ((vM 0 21) + (1 : Int32))) vT, ai cI (aM 1) 70 (vM 1), ai cI (aM 2) 70 (vM 2), ai cI (aM 3) 40 (vM 3), ai cI (aM 4) 80 (vM 4), ai cZ (aM 5) 2 (vM 5), ai cI (aM 6) 200 (vM 6), ai cI (aM 8) 12 (vM 8), ai cI (aM 10) 12 (vM 10), ai cI (aM 18) 427 (vM 18), ai cI (aM 21) 100 (upd (vM 21) (Int32.toNatClampNeg (vM 0 21)) o54), ai cI (aM 23) 100 (vM 23), ai cI (aM 24) 100 (vM 24), ai cI (aM 26) 7 (vM 26), ai cI (aM 27) 5 (vM 27), ai cI (aM 28) 64 (vM 28)] H := hP
      have hD : va_D A [oX6 aM (st vM 0 21 ((vM 0 21) + (1 : Int32))) vT, ai cI (aM 1) 70 (vM 1), ai cI (aM 2) 70 (vM 2), ai cI (aM 3) 40 (vM 3), ai cI (aM 4) 80 (vM 4), ai cZ (aM 5) 2 (vM 5), ai cI (aM 6) 200 (vM 6), ai cI (aM 8) 12 (vM 8), ai cI (aM 10) 12 (vM 10), ai cI (aM 18) 427 (vM 18), ai cI (aM 21) 100 (upd (vM 21) (Int32.toNatClampNeg (vM 0 21)) o54), ai cI (aM 23) 100 (vM 23), ai cI (aM 24) 100 (vM 24), ai cI (aM 26) 7 (vM 26), ai cI (aM 27) 5 (vM 27), ai cI (aM 28) 64 (vM 28)] := hD
      refine lv_iload hx hb dX6_layRow_80 (lv_at hl 0 rfl) ?_
      refine lv_if_ne (tgt := 91) hx hb dX6_layRow_82 (by decide) (fun c82 => ?_) (fun c82 => ?_)
      · have h := (if_neg c82).symm.trans h
        refine lv_iload hx hb dX6_layRow_91 (lv_at hl 0 rfl) ?_
        refine lv_bipush (v := (10 : Int32)) hx hb dX6_layRow_93 k_bipush_10 ?_
        refine lv_icmp_le (tgt := 116) hx hb dX6_layRow_95 (by decide) (fun c95 => ?_) (fun c95 => ?_)
        · have h := (if_pos c95).symm.trans h
          refine lv_iload hx hb dX6_layRow_116 (lv_at hl 6 rfl) ?_
          refine lv_iload_n hx hb dX6_layRow_118 rfl (lv_at hl 2 rfl) ?_
          obtain ⟨o119, ho119, h⟩ := bnd_some h
          refine call_S0 (As := [.int x5, .int x1]) (rest := []) ⟨hx, hb, hml, hown, hts⟩ (c_X6_holds l G cI cZ  x5 x1 o119 ho119) (va_cwS 2 hts gX6_layRow_X6_holds rfl rfl rfl hdS_X6_holds ⟨Nat.le_of_ble_eq_true rfl, Nat.le_of_ble_eq_true rfl⟩) hEN hA hP hD hS [] rfl (by decide) rfl hl.1 rfl (Nat.le_of_ble_eq_true rfl) dX6_layRow_119 ⟨Nat.le_of_ble_eq_true rfl, Nat.le_of_ble_eq_true rfl⟩ (fun H locs hP hS => ?_)
          refine lv_istore (lv' := [(7, .int o119), (6, .int o54), (0, .ref (aM 0)), (1, .int x1), (2, .int x2), (3, .int x3), (4, .int x4), (5, .int x5)]) hx hb dX6_layRow_122 hl (by decide) rfl (fun ls hl => ?_)
          refine lv_iload_n hx hb dX6_layRow_124 rfl (lv_at hl 5 rfl) ?_
          refine lv_aload_n hx hb dX6_layRow_125 rfl (lv_at hl 2 rfl) ?_
          refine va_get (D := G) (ci := 6) (v := .ref (aM 1)) (C := RX6) (T := TX6) (N := 29) hx hb hts fi_X6_layRow_X6 hown hEN.1 hP 0 rfl rfl 0 (by decide) (hts (.fieldLink RX6 7 "HourWellModel" "tale" "[I") (List.mem_of_getElem? (i := 5) rfl)) (fun _ h9 => h9) rfl dX6_layRow_126 ?_
          refine lv_bipush (v := (43 : Int32)) hx hb dX6_layRow_129 k_bipush_43 ?_
          refine lv_iload hx hb dX6_layRow_131 (lv_at hl 1 rfl) ?_
          refine lv_iadd hx hb dX6_layRow_133 ?_
          refine lv_iconst (v := (1 : Int32)) hx hb dX6_layRow_134 k_iconst_1 ?_
          refine lv_isub hx hb dX6_layRow_135 ?_
          obtain ⟨hg136, h⟩ := grd_some h
          refine va_iald (f := (vM 1)) hx hb hEN.1 hP 1 0 rfl rfl (inb_in hg136) dX6_layRow_136 ?_
          refine lv_iadd hx hb dX6_layRow_137 ?_
          refine lv_istore_n (lv' := [(3, .int (x3 + ((vM 1) (Int32.toNatClampNeg (((43 : Int32) + o54) - (1 : Int32)))))), (7, .int o119), (6, .int o54), (0, .ref (aM 0)), (1, .int x1), (2, .int x2), (4, .int x4), (5, .int x5)]) hx hb dX6_layRow_138 rfl hl (by decide) rfl (fun ls hl => ?_)
          refine lv_aload_n hx hb dX6_layRow_139 rfl (lv_at hl 3 rfl) ?_
          refine lv_iload hx hb dX6_layRow_140 (lv_at hl 2 rfl) ?_
          refine lv_iconst (v := (1 : Int32)) hx hb dX6_layRow_142 k_iconst_1 ?_
          refine lv_isub hx hb dX6_layRow_143 ?_
          refine lv_iload hx hb dX6_layRow_144 (lv_at hl 6 rfl) ?_
          refine lv_aload_n hx hb dX6_layRow_146 rfl (lv_at hl 3 rfl) ?_
          refine va_get (D := G) (ci := 6) (v := .ref (aM 3)) (C := RX6) (T := TX6) (N := 29) hx hb hts fi_X6_layRow_X6 hown hEN.1 hP 0 rfl rfl 2 (by decide) (hts (.fieldLink RX6 16 "HourWellModel" "he" "[I") (List.mem_of_getElem? (i := 1) rfl)) (fun _ h9 => h9) rfl dX6_layRow_147 ?_
          refine lv_iconst (v := (1 : Int32)) hx hb dX6_layRow_150 k_iconst_1 ?_
          refine va_iald (f := (vM 3)) hx hb hEN.1 hP 3 0 rfl rfl (inb_in (i := (1 : Int32)) (n := 40) rfl) dX6_layRow_151 ?_
          refine lv_iload_n hx hb dX6_layRow_152 rfl (lv_at hl 0 rfl) ?_
          refine lv_iadd hx hb dX6_layRow_153 ?_
          refine lv_iload hx hb dX6_layRow_154 (lv_at hl 7 rfl) ?_
          obtain ⟨o156, ho156, h⟩ := bnd_some h
          refine call_V0 (As := [.int (o54 - (1 : Int32)), .int x4, .int (((vM 3) (Int32.toNatClampNeg (1 : Int32))) + (x3 + ((vM 1) (Int32.toNatClampNeg (((43 : Int32) + o54) - (1 : Int32)))))), .int x5]) (rest := []) ⟨hx, hb, hml, hown, hts⟩ (c_X6_enters l G cI cZ aM vT (st (st vM 21 (Int32.toNatClampNeg (vM 0 21)) o54) 0 21 ((vM 0 21) + (1 : Int32))) (o54 - (1 : Int32)) x4 (((vM 3) (Int32.toNatClampNeg (1 : Int32))) + (x3 + ((vM 1) (Int32.toNatClampNeg (((43 : Int32) + o54) - (1 : Int32)))))) x5 o156 ho156) (cwV 4 hts gX6_layRow_X6_enters rfl rfl rfl hdV_X6_enters ⟨Nat.le_of_ble_eq_true rfl, Nat.le_of_ble_eq_true rfl⟩) hEN hA hP hD hS [0, 1] rfl (by decide) 0 rfl rfl rfl hl.1 rfl (Nat.le_of_ble_eq_true rfl) dX6_layRow_156 ⟨Nat.le_of_ble_eq_true rfl, Nat.le_of_ble_eq_true rfl⟩ (fun H locs hP hS => ?_)
          refine lv_istore (lv' := [(5, .int o156), (3, .int (x3 + ((vM 1) (Int32.toNatClampNeg (((43 : Int32) + o54) - (1 : Int32)))))), (7, .int o119), (6, .int o54), (0, .ref (aM 0)), (1, .int x1), (2, .int x2), (4, .int x4)]) hx hb dX6_layRow_159 hl (by decide) rfl (fun ls hl => ?_)
          refine lv_aload_n hx hb dX6_layRow_161 rfl (lv_at hl 4 rfl) ?_
          refine lv_iload hx hb dX6_layRow_162 (lv_at hl 3 rfl) ?_
          refine lv_iconst (v := (1 : Int32)) hx hb dX6_layRow_164 k_iconst_1 ?_
          refine lv_isub hx hb dX6_layRow_165 ?_
          refine lv_iload hx hb dX6_layRow_166 (lv_at hl 7 rfl) ?_
          obtain ⟨o168, ho168, h⟩ := bnd_some h
          refine call_V0 (As := [.int (o54 - (1 : Int32)), .int x4]) (rest := []) ⟨hx, hb, hml, hown, hts⟩ (c_X6_otherEnd l G cI cZ aM vT (st (st vM 21 (Int32.toNatClampNeg (vM 0 21)) o54) 0 21 ((vM 0 21) + (1 : Int32))) (o54 - (1 : Int32)) x4 o168 ho168) (cwV 2 hts gX6_layRow_X6_otherEnd rfl rfl rfl hdV_X6_otherEnd ⟨Nat.le_of_ble_eq_true rfl, Nat.le_of_ble_eq_true rfl⟩) hEN hA hP hD hS [0, 1] rfl (by decide) 0 rfl rfl rfl hl.1 rfl (Nat.le_of_ble_eq_true rfl) dX6_layRow_168 ⟨Nat.le_of_ble_eq_true rfl, Nat.le_of_ble_eq_true rfl⟩ (fun H locs hP hS => ?_)
          refine lv_istore (lv' := [(4, .int o168), (5, .int o156), (3, .int (x3 + ((vM 1) (Int32.toNatClampNeg (((43 : Int32) + o54) - (1 : Int32)))))), (7, .int o119), (6, .int o54), (0, .ref (aM 0)), (1, .int x1), (2, .int x2)]) hx hb dX6_layRow_171 hl (by decide) rfl (fun ls hl => ?_)
          refine lv_aload_n hx hb dX6_layRow_173 rfl (lv_at hl 5 rfl) ?_
          refine va_get (D := G) (ci := 6) (v := .ref (aM 23)) (C := RX6) (T := TX6) (N := 29) hx hb hts fi_X6_layRow_X6 hown hEN.1 hP 0 rfl rfl 22 (by decide) (hts (.fieldLink RX6 41 "HourWellModel" "entered" "[I") (List.mem_of_getElem? (i := 6) rfl)) (fun _ h9 => h9) rfl dX6_layRow_174 ?_
          refine lv_aload_n hx hb dX6_layRow_177 rfl (lv_at hl 5 rfl) ?_
          refine va_get (D := G) (ci := 6) (v := .int (vM 0 24)) (C := RX6) (T := TX6) (N := 29) hx hb hts fi_X6_layRow_X6 hown hEN.1 hP 0 rfl rfl 24 (by decide) (hts (.fieldLink RX6 224 "HourWellModel" "enteredMany" "I") (List.mem_of_getElem? (i := 3) rfl)) (fun _ h9 => h9) rfl dX6_layRow_178 ?_
          refine lv_iload hx hb dX6_layRow_181 (lv_at hl 0 rfl) ?_
          obtain ⟨hg183, h⟩ := grd_some h
          refine va_iast (f := (vM 23)) hx hb hEN.1 hP hD hS 11 0 rfl rfl (inb_in hg183) dX6_layRow_183 (fun H locs hP hD hS => ?_)
          have hP : va_P G vwCl [oX6 aM (st vM 0 21 ((vM 0 21) + (1 : Int32))) vT, ai cI (aM 1) 70 (vM 1), ai cI (aM 2) 70 (vM 2), ai cI (aM 3) 40 (vM 3), ai cI (aM 4) 80 (vM 4), ai cZ (aM 5) 2 (vM 5), ai cI (aM 6) 200 (vM 6), ai cI (aM 8) 12 (vM 8), ai cI (aM 10) 12 (vM 10), ai cI (aM 18) 427 (vM 18), ai cI (aM 21) 100 (upd (vM 21) (Int32.toNatClampNeg (vM 0 21)) o54), ai cI (aM 23) 100 (upd (vM 23) (Int32.toNatClampNeg (vM 0 24)) o168), ai cI (aM 24) 100 (vM 24), ai cI (aM 26) 7 (vM 26), ai cI (aM 27) 5 (vM 27), ai cI (aM 28) 64 (vM 28)] H := hP
          have hD : va_D A [oX6 aM (st vM 0 21 ((vM 0 21) + (1 : Int32))) vT, ai cI (aM 1) 70 (vM 1), ai cI (aM 2) 70 (vM 2), ai cI (aM 3) 40 (vM 3), ai cI (aM 4) 80 (vM 4), ai cZ (aM 5) 2 (vM 5), ai cI (aM 6) 200 (vM 6), ai cI (aM 8) 12 (vM 8), ai cI (aM 10) 12 (vM 10), ai cI (aM 18) 427 (vM 18), ai cI (aM 21) 100 (upd (vM 21) (Int32.toNatClampNeg (vM 0 21)) o54), ai cI (aM 23) 100 (upd (vM 23) (Int32.toNatClampNeg (vM 0 24)) o168), ai cI (aM 24) 100 (vM 24), ai cI (aM 26) 7 (vM 26), ai cI (aM 27) 5 (vM 27), ai cI (aM 28) 64 (vM 28)] := hD
          refine lv_aload_n hx hb dX6_layRow_184 rfl (lv_at hl 5 rfl) ?_
          refine va_get (D := G) (ci := 6) (v := .ref (aM 24)) (C := RX6) (T := TX6) (N := 29) hx hb hts fi_X6_layRow_X6 hown hEN.1 hP 0 rfl rfl 23 (by decide) (hts (.fieldLink RX6 44 "HourWellModel" "when" "[I") (List.mem_of_getElem? (i := 7) rfl)) (fun _ h9 => h9) rfl dX6_layRow_185 ?_
          refine lv_aload_n hx hb dX6_layRow_188 rfl (lv_at hl 5 rfl) ?_
          refine va_get (D := G) (ci := 6) (v := .int (vM 0 24)) (C := RX6) (T := TX6) (N := 29) hx hb hts fi_X6_layRow_X6 hown hEN.1 hP 0 rfl rfl 24 (by decide) (hts (.fieldLink RX6 224 "HourWellModel" "enteredMany" "I") (List.mem_of_getElem? (i := 3) rfl)) (fun _ h9 => h9) rfl dX6_layRow_189 ?_
          refine lv_iload_n hx hb dX6_layRow_192 rfl (lv_at hl 2 rfl) ?_
          obtain ⟨hg193, h⟩ := grd_some h
          refine va_iast (f := (vM 24)) hx hb hEN.1 hP hD hS 12 0 rfl rfl (inb_in hg193) dX6_layRow_193 (fun H locs hP hD hS => ?_)
          have hP : va_P G vwCl [oX6 aM (st vM 0 21 ((vM 0 21) + (1 : Int32))) vT, ai cI (aM 1) 70 (vM 1), ai cI (aM 2) 70 (vM 2), ai cI (aM 3) 40 (vM 3), ai cI (aM 4) 80 (vM 4), ai cZ (aM 5) 2 (vM 5), ai cI (aM 6) 200 (vM 6), ai cI (aM 8) 12 (vM 8), ai cI (aM 10) 12 (vM 10), ai cI (aM 18) 427 (vM 18), ai cI (aM 21) 100 (upd (vM 21) (Int32.toNatClampNeg (vM 0 21)) o54), ai cI (aM 23) 100 (upd (vM 23) (Int32.toNatClampNeg (vM 0 24)) o168), ai cI (aM 24) 100 (upd (vM 24) (Int32.toNatClampNeg (vM 0 24)) (x3 + ((vM 1) (Int32.toNatClampNeg (((43 : Int32) + o54) - (1 : Int32)))))), ai cI (aM 26) 7 (vM 26), ai cI (aM 27) 5 (vM 27), ai cI (aM 28) 64 (vM 28)] H := hP
          have hD : va_D A [oX6 aM (st vM 0 21 ((vM 0 21) + (1 : Int32))) vT, ai cI (aM 1) 70 (vM 1), ai cI (aM 2) 70 (vM 2), ai cI (aM 3) 40 (vM 3), ai cI (aM 4) 80 (vM 4), ai cZ (aM 5) 2 (vM 5), ai cI (aM 6) 200 (vM 6), ai cI (aM 8) 12 (vM 8), ai cI (aM 10) 12 (vM 10), ai cI (aM 18) 427 (vM 18), ai cI (aM 21) 100 (upd (vM 21) (Int32.toNatClampNeg (vM 0 21)) o54), ai cI (aM 23) 100 (upd (vM 23) (Int32.toNatClampNeg (vM 0 24)) o168), ai cI (aM 24) 100 (upd (vM 24) (Int32.toNatClampNeg (vM 0 24)) (x3 + ((vM 1) (Int32.toNatClampNeg (((43 : Int32) + o54) - (1 : Int32)))))), ai cI (aM 26) 7 (vM 26), ai cI (aM 27) 5 (vM 27), ai cI (aM 28) 64 (vM 28)] := hD
          refine lv_aload_n hx hb dX6_layRow_194 rfl (lv_at hl 5 rfl) ?_
          refine lv_dup hx hb dX6_layRow_195 rfl ?_
          refine va_get (D := G) (ci := 6) (v := .int (vM 0 24)) (C := RX6) (T := TX6) (N := 29) hx hb hts fi_X6_layRow_X6 hown hEN.1 hP 0 rfl rfl 24 (by decide) (hts (.fieldLink RX6 224 "HourWellModel" "enteredMany" "I") (List.mem_of_getElem? (i := 3) rfl)) (fun _ h9 => h9) rfl dX6_layRow_196 ?_
          refine lv_iload hx hb dX6_layRow_199 (lv_at hl 3 rfl) ?_
          refine lv_if_eq (tgt := 208) hx hb dX6_layRow_201 (by decide) (fun c201 => ?_) (fun c201 => ?_)
          · have h := (if_pos c201).symm.trans h
            refine lv_iconst (v := (0 : Int32)) hx hb dX6_layRow_208 k_iconst_0 ?_
            exact j209 rc hrc (st (st (st (st vM 21 (Int32.toNatClampNeg (vM 0 21)) o54) 0 21 ((vM 0 21) + (1 : Int32))) 23 (Int32.toNatClampNeg (vM 0 24)) o168) 24 (Int32.toNatClampNeg (vM 0 24)) (x3 + ((vM 1) (Int32.toNatClampNeg (((43 : Int32) + o54) - (1 : Int32)))))) x1 x2 (x3 + ((vM 1) (Int32.toNatClampNeg (((43 : Int32) + o54) - (1 : Int32))))) o168 o156 (vM 0 24) (0 : Int32) h _ _ _ hP hD hS (lv_sub hl [5, 6, 7, 2, 0, 1] rfl)
          · have h := (if_neg c201).symm.trans h
            refine lv_iconst (v := (1 : Int32)) hx hb dX6_layRow_204 k_iconst_1 ?_
            refine lv_goto (tgt := 209) hx hb dX6_layRow_205 (by decide) ?_
            exact j209 rc hrc (st (st (st (st vM 21 (Int32.toNatClampNeg (vM 0 21)) o54) 0 21 ((vM 0 21) + (1 : Int32))) 23 (Int32.toNatClampNeg (vM 0 24)) o168) 24 (Int32.toNatClampNeg (vM 0 24)) (x3 + ((vM 1) (Int32.toNatClampNeg (((43 : Int32) + o54) - (1 : Int32)))))) x1 x2 (x3 + ((vM 1) (Int32.toNatClampNeg (((43 : Int32) + o54) - (1 : Int32))))) o168 o156 (vM 0 24) (1 : Int32) h _ _ _ hP hD hS (lv_sub hl [5, 6, 7, 2, 0, 1] rfl)
        · have h := (if_neg c95).symm.trans h
          refine lv_aload_n hx hb dX6_layRow_98 rfl (lv_at hl 1 rfl) ?_
          refine lv_iload hx hb dX6_layRow_99 (lv_at hl 0 rfl) ?_
          refine lv_bipush (v := (11 : Int32)) hx hb dX6_layRow_101 k_bipush_11 ?_
          refine lv_isub hx hb dX6_layRow_103 ?_
          refine lv_iload hx hb dX6_layRow_104 (lv_at hl 5 rfl) ?_
          refine lv_iload hx hb dX6_layRow_106 (lv_at hl 6 rfl) ?_
          obtain ⟨o108, ho108, h⟩ := bnd_some h
          refine call_V0 (As := [.int (o54 - (11 : Int32)), .int x4, .int x5]) (rest := []) ⟨hx, hb, hml, hown, hts⟩ (c_X6_given l G cI cZ aM vT (st (st vM 21 (Int32.toNatClampNeg (vM 0 21)) o54) 0 21 ((vM 0 21) + (1 : Int32))) (o54 - (11 : Int32)) x4 x5 o108 ho108) (cwV 3 hts gX6_layRow_X6_given rfl rfl rfl hdV_X6_given ⟨Nat.le_of_ble_eq_true rfl, Nat.le_of_ble_eq_true rfl⟩) hEN hA hP hD hS [0, 1] rfl (by decide) 0 rfl rfl rfl hl.1 rfl (Nat.le_of_ble_eq_true rfl) dX6_layRow_108 ⟨Nat.le_of_ble_eq_true rfl, Nat.le_of_ble_eq_true rfl⟩ (fun H locs hP hS => ?_)
          refine lv_istore (lv' := [(5, .int o108), (6, .int o54), (0, .ref (aM 0)), (1, .int x1), (2, .int x2), (3, .int x3), (4, .int x4)]) hx hb dX6_layRow_111 hl (by decide) rfl (fun ls hl => ?_)
          refine lv_goto (tgt := 213) hx hb dX6_layRow_113 (by decide) ?_
          exact j213 rc hrc (st (st vM 21 (Int32.toNatClampNeg (vM 0 21)) o54) 0 21 ((vM 0 21) + (1 : Int32))) x1 x2 x3 x4 o108 h _ _ _ hP hD hS (lv_sub hl [2, 3, 4, 5, 6, 0] rfl)
      · have h := (if_pos c82).symm.trans h
        refine lv_iinc (v := (x3 + (1 : Int32))) (lv' := [(3, .int (x3 + (1 : Int32))), (6, .int o54), (0, .ref (aM 0)), (1, .int x1), (2, .int x2), (4, .int x4), (5, .int x5)]) hx hb dX6_layRow_85 hl (k := 4) rfl (congrArg (fun z => x3 + z) k_iconst_1) (by decide) rfl (fun ls hl => ?_)
        refine lv_goto (tgt := 213) hx hb dX6_layRow_88 (by decide) ?_
        exact j213 rc hrc (st (st vM 21 (Int32.toNatClampNeg (vM 0 21)) o54) 0 21 ((vM 0 21) + (1 : Int32))) x1 x2 (x3 + (1 : Int32)) x4 x5 h _ _ _ hP hD hS (lv_sub hl [2, 3, 4, 0, 5, 6] rfl)
    intro n
    induction n with
    | zero => intro vM x1 x2 x3 x4 x5 h; exact nomatch (show (none : Option (Ob)) = some out from h)
    | succ n hrc =>
      intro vM x1 x2 x3 x4 x5 h H locs ls hP hD hS hl
      have h : m_X6_layRow_L28B  (m_X6_layRow_L28  n) vM x1 x2 x3 x4 x5 = some out := h
      generalize m_X6_layRow_L28  n = rc at h hrc
      unfold m_X6_layRow_L28B at h
      refine lv_iload_n hx hb dX6_layRow_28 rfl (lv_at hl 3 rfl) ?_
      refine lv_iload_n hx hb dX6_layRow_29 rfl (lv_at hl 2 rfl) ?_
      refine lv_icmp_ne (tgt := 47) hx hb dX6_layRow_30 (by decide) (fun c30 => ?_) (fun c30 => ?_)
      · have h := (if_neg c30).symm.trans h
        exact j47 rc hrc vM x1 x2 x3 x4 x5 h _ _ _ hP hD hS (lv_sub hl [0, 1, 2, 3, 4, 5] rfl)
      · have h := (if_pos c30).symm.trans h
        refine lv_iload hx hb dX6_layRow_33 (lv_at hl 4 rfl) ?_
        refine lv_if_ne (tgt := 47) hx hb dX6_layRow_35 (by decide) (fun c35 => ?_) (fun c35 => ?_)
        · have h := (if_neg c35).symm.trans h
          exact j47 rc hrc vM x1 x2 x3 x4 x5 h _ _ _ hP hD hS (lv_sub hl [0, 1, 2, 3, 4, 5] rfl)
        · have h := (if_pos c35).symm.trans h
          refine lv_iload hx hb dX6_layRow_38 (lv_at hl 5 rfl) ?_
          refine lv_iload_n hx hb dX6_layRow_40 rfl (lv_at hl 1 rfl) ?_
          obtain ⟨o41, ho41, h⟩ := bnd_some h
          refine call_S0 (As := [.int x5, .int x1]) (rest := []) ⟨hx, hb, hml, hown, hts⟩ (c_X6_holds l G cI cZ  x5 x1 o41 ho41) (va_cwS 2 hts gX6_layRow_X6_holds rfl rfl rfl hdS_X6_holds ⟨Nat.le_of_ble_eq_true rfl, Nat.le_of_ble_eq_true rfl⟩) hEN hA hP hD hS [] rfl (by decide) rfl hl.1 rfl (Nat.le_of_ble_eq_true rfl) dX6_layRow_41 ⟨Nat.le_of_ble_eq_true rfl, Nat.le_of_ble_eq_true rfl⟩ (fun H locs hP hS => ?_)
          refine lv_if_ne (tgt := 216) hx hb dX6_layRow_44 (by decide) (fun c44 => ?_) (fun c44 => ?_)
          · have h := (if_neg c44).symm.trans h
            exact hKx _ (Option.some.inj h).symm _ _ _ hP hD hS (lv_sub hl [] rfl)
          · have h := (if_pos c44).symm.trans h
            exact j47 rc hrc vM x1 x2 x3 x4 x5 h _ _ _ hP hD hS (lv_sub hl [0, 1, 2, 3, 4, 5] rfl)
  unfold m_X6_layRow at h
  refine lv_iconst (v := (0 : Int32)) hx hb dX6_layRow_0 k_iconst_0 ?_
  refine lv_istore_n (lv' := [(3, .int (0 : Int32)), (0, .ref (aM 0)), (1, .int x1), (2, .int x2)]) hx hb dX6_layRow_1 rfl hl (by decide) rfl (fun ls hl => ?_)
  refine lv_aload_n hx hb dX6_layRow_2 rfl (lv_at hl 1 rfl) ?_
  refine va_get (D := G) (ci := 6) (v := .ref (aM 3)) (C := RX6) (T := TX6) (N := 29) hx hb hts fi_X6_layRow_X6 hown hEN.1 hP 0 rfl rfl 2 (by decide) (hts (.fieldLink RX6 16 "HourWellModel" "he" "[I") (List.mem_of_getElem? (i := 1) rfl)) (fun _ h9 => h9) rfl dX6_layRow_3 ?_
  refine lv_iconst (v := (0 : Int32)) hx hb dX6_layRow_6 k_iconst_0 ?_
  refine va_iald (f := (vM 3)) hx hb hEN.1 hP 3 0 rfl rfl (inb_in (i := (0 : Int32)) (n := 40) rfl) dX6_layRow_7 ?_
  refine lv_istore (lv' := [(4, .int ((vM 3) (Int32.toNatClampNeg (0 : Int32)))), (3, .int (0 : Int32)), (0, .ref (aM 0)), (1, .int x1), (2, .int x2)]) hx hb dX6_layRow_8 hl (by decide) rfl (fun ls hl => ?_)
  refine lv_aload_n hx hb dX6_layRow_10 rfl (lv_at hl 2 rfl) ?_
  refine va_get (D := G) (ci := 6) (v := .ref (aM 3)) (C := RX6) (T := TX6) (N := 29) hx hb hts fi_X6_layRow_X6 hown hEN.1 hP 0 rfl rfl 2 (by decide) (hts (.fieldLink RX6 16 "HourWellModel" "he" "[I") (List.mem_of_getElem? (i := 1) rfl)) (fun _ h9 => h9) rfl dX6_layRow_11 ?_
  refine lv_iconst (v := (2 : Int32)) hx hb dX6_layRow_14 k_iconst_2 ?_
  refine va_iald (f := (vM 3)) hx hb hEN.1 hP 3 0 rfl rfl (inb_in (i := (2 : Int32)) (n := 40) rfl) dX6_layRow_15 ?_
  refine lv_istore (lv' := [(5, .int ((vM 3) (Int32.toNatClampNeg (2 : Int32)))), (4, .int ((vM 3) (Int32.toNatClampNeg (0 : Int32)))), (3, .int (0 : Int32)), (0, .ref (aM 0)), (1, .int x1), (2, .int x2)]) hx hb dX6_layRow_16 hl (by decide) rfl (fun ls hl => ?_)
  refine lv_aload_n hx hb dX6_layRow_18 rfl (lv_at hl 3 rfl) ?_
  refine lv_iconst (v := (0 : Int32)) hx hb dX6_layRow_19 k_iconst_0 ?_
  refine va_put (D := G) (ci := 6) (v := .int (0 : Int32)) (ty := .int) (C := RX6) (T := TX6) (N := 29) hx hb hts fi_X6_layRow_X6 tyX6 tyX6_ok nmX6 hown hEN.1 hP hD hS 0 rfl rfl 21 (by decide) (hts (.fieldLink RX6 221 "HourWellModel" "stepMany" "I") (List.mem_of_getElem? (i := 2) rfl)) (fun _ h9 => h9) rfl (by decide +kernel) rfl rfl (Nat.le_of_ble_eq_true rfl) dX6_layRow_20 (fun H locs hP hD hS => ?_)
  have hP : va_P G vwCl [oX6 aM (st vM 0 21 (0 : Int32)) vT, ai cI (aM 1) 70 (vM 1), ai cI (aM 2) 70 (vM 2), ai cI (aM 3) 40 (vM 3), ai cI (aM 4) 80 (vM 4), ai cZ (aM 5) 2 (vM 5), ai cI (aM 6) 200 (vM 6), ai cI (aM 8) 12 (vM 8), ai cI (aM 10) 12 (vM 10), ai cI (aM 18) 427 (vM 18), ai cI (aM 21) 100 (vM 21), ai cI (aM 23) 100 (vM 23), ai cI (aM 24) 100 (vM 24), ai cI (aM 26) 7 (vM 26), ai cI (aM 27) 5 (vM 27), ai cI (aM 28) 64 (vM 28)] H := hP
  have hD : va_D A [oX6 aM (st vM 0 21 (0 : Int32)) vT, ai cI (aM 1) 70 (vM 1), ai cI (aM 2) 70 (vM 2), ai cI (aM 3) 40 (vM 3), ai cI (aM 4) 80 (vM 4), ai cZ (aM 5) 2 (vM 5), ai cI (aM 6) 200 (vM 6), ai cI (aM 8) 12 (vM 8), ai cI (aM 10) 12 (vM 10), ai cI (aM 18) 427 (vM 18), ai cI (aM 21) 100 (vM 21), ai cI (aM 23) 100 (vM 23), ai cI (aM 24) 100 (vM 24), ai cI (aM 26) 7 (vM 26), ai cI (aM 27) 5 (vM 27), ai cI (aM 28) 64 (vM 28)] := hD
  refine lv_aload_n hx hb dX6_layRow_23 rfl (lv_at hl 3 rfl) ?_
  refine lv_iconst (v := (0 : Int32)) hx hb dX6_layRow_24 k_iconst_0 ?_
  refine va_put (D := G) (ci := 6) (v := .int (0 : Int32)) (ty := .int) (C := RX6) (T := TX6) (N := 29) hx hb hts fi_X6_layRow_X6 tyX6 tyX6_ok nmX6 hown hEN.1 hP hD hS 0 rfl rfl 24 (by decide) (hts (.fieldLink RX6 224 "HourWellModel" "enteredMany" "I") (List.mem_of_getElem? (i := 3) rfl)) (fun _ h9 => h9) rfl (by decide +kernel) rfl rfl (Nat.le_of_ble_eq_true rfl) dX6_layRow_25 (fun H locs hP hD hS => ?_)
  have hP : va_P G vwCl [oX6 aM (st (st vM 0 21 (0 : Int32)) 0 24 (0 : Int32)) vT, ai cI (aM 1) 70 (vM 1), ai cI (aM 2) 70 (vM 2), ai cI (aM 3) 40 (vM 3), ai cI (aM 4) 80 (vM 4), ai cZ (aM 5) 2 (vM 5), ai cI (aM 6) 200 (vM 6), ai cI (aM 8) 12 (vM 8), ai cI (aM 10) 12 (vM 10), ai cI (aM 18) 427 (vM 18), ai cI (aM 21) 100 (vM 21), ai cI (aM 23) 100 (vM 23), ai cI (aM 24) 100 (vM 24), ai cI (aM 26) 7 (vM 26), ai cI (aM 27) 5 (vM 27), ai cI (aM 28) 64 (vM 28)] H := hP
  have hD : va_D A [oX6 aM (st (st vM 0 21 (0 : Int32)) 0 24 (0 : Int32)) vT, ai cI (aM 1) 70 (vM 1), ai cI (aM 2) 70 (vM 2), ai cI (aM 3) 40 (vM 3), ai cI (aM 4) 80 (vM 4), ai cZ (aM 5) 2 (vM 5), ai cI (aM 6) 200 (vM 6), ai cI (aM 8) 12 (vM 8), ai cI (aM 10) 12 (vM 10), ai cI (aM 18) 427 (vM 18), ai cI (aM 21) 100 (vM 21), ai cI (aM 23) 100 (vM 23), ai cI (aM 24) 100 (vM 24), ai cI (aM 26) 7 (vM 26), ai cI (aM 27) 5 (vM 27), ai cI (aM 28) 64 (vM 28)] := hD
  obtain ⟨o28_1, ho28_1, h⟩ := bnd_some h
  refine L28 o28_1 (fun o28_1e er H locs ls hP hD hS hl => ?_) FU (st (st vM 0 21 (0 : Int32)) 0 24 (0 : Int32)) x1 x2 (0 : Int32) ((vM 3) (Int32.toNatClampNeg (0 : Int32))) ((vM 3) (Int32.toNatClampNeg (2 : Int32))) ho28_1 _ _ _ hP hD hS (lv_sub hl [3, 4, 5, 2, 1, 0] rfl)
  subst er
  have hres := Option.some.inj h
  subst hres
  exact hRet 216 _ _ _ hP hD hS dX6_layRow_216
abbrev rm_X6_soonest : Room := { frames := 7, cells := 0, slots := 0, locals := 174 }
theorem fi_X6_soonest_X6 : ∀ w ∈ wsX60, w ∈ wsX6_soonest := fun _ h => List.mem_cons_of_mem _ (List.mem_append_right _ h)
theorem hdV_X6_soonest : yX6_soonest.cls = RX6 ∧ yX6_soonest.cls ≠ "java/lang/invoke/MethodHandle" ∧ yX6_soonest.cls ≠ "java/lang/invoke/VarHandle" ∧ (parseMethodDescriptor yX6_soonest.desc).map (fun d => d.parameters.length) = some 2 := by decide +kernel
set_option maxRecDepth 100000 in
set_option maxHeartbeats 4000000 in
theorem c_X6_soonest (l : Launch) (G : va_G) (cI cZ : ClassId) (aM : Nat → Nat) (vT : Int64) (vM : Ob) (x1 : Int32) (x2 : Int32) (res : Int32 × Ob) (h : m_X6_soonest vM x1 x2 = some res) : Ct l yX6_soonest wsX6_soonest rm_X6_soonest G cI cZ [.ref (aM 0), .int x1, .int x2] [oX6 aM vM vT, ai cI (aM 1) 70 (vM 1), ai cI (aM 2) 70 (vM 2), ai cI (aM 3) 40 (vM 3), ai cI (aM 4) 80 (vM 4), ai cZ (aM 5) 2 (vM 5), ai cI (aM 6) 200 (vM 6), ai cI (aM 8) 12 (vM 8), ai cI (aM 10) 12 (vM 10), ai cI (aM 18) 427 (vM 18), ai cI (aM 21) 100 (vM 21), ai cI (aM 23) 100 (vM 23), ai cI (aM 24) 100 (vM 24), ai cI (aM 26) 7 (vM 26), ai cI (aM 27) 5 (vM 27), ai cI (aM 28) 64 (vM 28)] (some (.int res.1)) [oX6 aM res.2 vT, ai cI (aM 1) 70 (res.2 1), ai cI (aM 2) 70 (res.2 2), ai cI (aM 3) 40 (res.2 3), ai cI (aM 4) 80 (res.2 4), ai cZ (aM 5) 2 (res.2 5), ai cI (aM 6) 200 (res.2 6), ai cI (aM 8) 12 (res.2 8), ai cI (aM 10) 12 (res.2 10), ai cI (aM 18) 427 (res.2 18), ai cI (aM 21) 100 (res.2 21), ai cI (aM 23) 100 (res.2 23), ai cI (aM 24) 100 (res.2 24), ai cI (aM 26) 7 (res.2 26), ai cI (aM 27) 5 (res.2 27), ai cI (aM 28) 64 (res.2 28)] := by
  refine Ct.of_i (maxL := 4) (by decide) rfl (Nat.le_of_ble_eq_true rfl) ?_
  intro p e s m below meth c args hx hb hml hown hts A hA hEN hP hD hS Q hRet ls hl
  have hown : s.vm.findClass RX6 = some m.cls := hown
  have hl : lv_has ls 4 [(0, .ref (aM 0)), (1, .int x1), (2, .int x2)] := hl
  unfold m_X6_soonest at h
  refine lv_iload_n hx hb dX6_soonest_0 rfl (lv_at hl 1 rfl) ?_
  obtain ⟨o1, ho1, h⟩ := bnd_some h
  refine call_S0 (As := [.int x1]) (rest := []) ⟨hx, hb, hml, hown, hts⟩ (c_X6_isThing l G cI cZ  x1 o1 ho1) (va_cwS 1 hts gX6_soonest_X6_isThing rfl rfl rfl hdS_X6_isThing ⟨Nat.le_of_ble_eq_true rfl, Nat.le_of_ble_eq_true rfl⟩) hEN hA hP hD hS [] rfl (by decide) rfl hl.1 rfl (Nat.le_of_ble_eq_true rfl) dX6_soonest_1 ⟨Nat.le_of_ble_eq_true rfl, Nat.le_of_ble_eq_true rfl⟩ (fun H locs hP hS => ?_)
  refine lv_if_eq (tgt := 21) hx hb dX6_soonest_4 (by decide) (fun c4 => ?_) (fun c4 => ?_)
  · have h := (if_pos c4).symm.trans h
    refine lv_iconst (v := (-1 : Int32)) hx hb dX6_soonest_21 k_iconst_n1 ?_
    have hres := Option.some.inj h
    subst hres
    exact hRet 22 _ _ _ hP hD hS dX6_soonest_22
  · have h := (if_neg c4).symm.trans h
    refine lv_iload_n hx hb dX6_soonest_7 rfl (lv_at hl 2 rfl) ?_
    refine lv_i2l (v := (Int32.toInt64 x2)) hx hb dX6_soonest_8 rfl ?_
    refine lv_ldc2 (v := (-1 : Int64)) hx hb hown (hts (.constantLong RX6 233 (-1)) (List.mem_of_getElem? (i := 1) rfl)) dX6_soonest_9 ?_
    refine lv_ldc2 (v := (99 : Int64)) hx hb hown (hts (.constantLong RX6 235 (99)) (List.mem_of_getElem? (i := 2) rfl)) dX6_soonest_12 ?_
    obtain ⟨o15, ho15, h⟩ := bnd_some h
    refine call_S0 (As := [.long (Int32.toInt64 x2), .long (-1 : Int64), .long (99 : Int64)]) (rest := []) ⟨hx, hb, hml, hown, hts⟩ (c_X6_in l G cI cZ  (Int32.toInt64 x2) (-1 : Int64) (99 : Int64) o15 ho15) (va_cwS 3 hts gX6_soonest_X6_in rfl rfl rfl hdS_X6_in ⟨Nat.le_of_ble_eq_true rfl, Nat.le_of_ble_eq_true rfl⟩) hEN hA hP hD hS [] rfl (by decide) rfl hl.1 rfl (Nat.le_of_ble_eq_true rfl) dX6_soonest_15 ⟨Nat.le_of_ble_eq_true rfl, Nat.le_of_ble_eq_true rfl⟩ (fun H locs hP hS => ?_)
    refine lv_if_ne (tgt := 23) hx hb dX6_soonest_18 (by decide) (fun c18 => ?_) (fun c18 => ?_)
    · have h := (if_neg c18).symm.trans h
      refine lv_aload_n hx hb dX6_soonest_23 rfl (lv_at hl 0 rfl) ?_
      obtain ⟨o24, ho24, h⟩ := bnd_some h
      refine call_VJ (wr := []) (As := []) (rest := []) ⟨hx, hb, hml, hown, hts⟩ (c_X6_withAll l G cI cZ aM vT vM o24 ho24) (cwV 0 hts gX6_soonest_X6_withAll rfl rfl rfl hdV_X6_withAll ⟨Nat.le_of_ble_eq_true rfl, Nat.le_of_ble_eq_true rfl⟩) hEN hA hP hD hS [0, 1, 2, 3, 4, 5, 6, 7, 8, 9, 10, 11, 12, 13, 14, 15] [] rfl (by decide) rfl (by decide) (by decide) 0 rfl rfl rfl hl.1 rfl (Nat.le_of_ble_eq_true rfl) dX6_soonest_24 ⟨Nat.le_of_ble_eq_true rfl, Nat.le_of_ble_eq_true rfl⟩ (fun H locs hP hD hS => ?_)
      have hP : va_P G vwCl [oX6 aM o24 vT, ai cI (aM 1) 70 (o24 1), ai cI (aM 2) 70 (o24 2), ai cI (aM 3) 40 (o24 3), ai cI (aM 4) 80 (o24 4), ai cZ (aM 5) 2 (o24 5), ai cI (aM 6) 200 (o24 6), ai cI (aM 8) 12 (o24 8), ai cI (aM 10) 12 (o24 10), ai cI (aM 18) 427 (o24 18), ai cI (aM 21) 100 (o24 21), ai cI (aM 23) 100 (o24 23), ai cI (aM 24) 100 (o24 24), ai cI (aM 26) 7 (o24 26), ai cI (aM 27) 5 (o24 27), ai cI (aM 28) 64 (o24 28)] H := hP
      have hD : va_D A [oX6 aM o24 vT, ai cI (aM 1) 70 (o24 1), ai cI (aM 2) 70 (o24 2), ai cI (aM 3) 40 (o24 3), ai cI (aM 4) 80 (o24 4), ai cZ (aM 5) 2 (o24 5), ai cI (aM 6) 200 (o24 6), ai cI (aM 8) 12 (o24 8), ai cI (aM 10) 12 (o24 10), ai cI (aM 18) 427 (o24 18), ai cI (aM 21) 100 (o24 21), ai cI (aM 23) 100 (o24 23), ai cI (aM 24) 100 (o24 24), ai cI (aM 26) 7 (o24 26), ai cI (aM 27) 5 (o24 27), ai cI (aM 28) 64 (o24 28)] := hD
      refine lv_aload_n hx hb dX6_soonest_27 rfl (lv_at hl 0 rfl) ?_
      refine lv_iload_n hx hb dX6_soonest_28 rfl (lv_at hl 1 rfl) ?_
      obtain ⟨o29, ho29, h⟩ := bnd_some h
      refine call_VJ (wr := []) (As := [.int x1]) (rest := []) ⟨hx, hb, hml, hown, hts⟩ (c_X6_fewest l G cI cZ aM vT o24 x1 o29 ho29) (cwV 1 hts gX6_soonest_X6_fewest rfl rfl rfl hdV_X6_fewest ⟨Nat.le_of_ble_eq_true rfl, Nat.le_of_ble_eq_true rfl⟩) hEN hA hP hD hS [0, 1, 2, 3, 4, 5, 6, 7, 8, 9, 10, 11, 12, 13, 14, 15] [] rfl (by decide) rfl (by decide) (by decide) 0 rfl rfl rfl hl.1 rfl (Nat.le_of_ble_eq_true rfl) dX6_soonest_29 ⟨Nat.le_of_ble_eq_true rfl, Nat.le_of_ble_eq_true rfl⟩ (fun H locs hP hD hS => ?_)
      have hP : va_P G vwCl [oX6 aM o29.2 vT, ai cI (aM 1) 70 (o29.2 1), ai cI (aM 2) 70 (o29.2 2), ai cI (aM 3) 40 (o29.2 3), ai cI (aM 4) 80 (o29.2 4), ai cZ (aM 5) 2 (o29.2 5), ai cI (aM 6) 200 (o29.2 6), ai cI (aM 8) 12 (o29.2 8), ai cI (aM 10) 12 (o29.2 10), ai cI (aM 18) 427 (o29.2 18), ai cI (aM 21) 100 (o29.2 21), ai cI (aM 23) 100 (o29.2 23), ai cI (aM 24) 100 (o29.2 24), ai cI (aM 26) 7 (o29.2 26), ai cI (aM 27) 5 (o29.2 27), ai cI (aM 28) 64 (o29.2 28)] H := hP
      have hD : va_D A [oX6 aM o29.2 vT, ai cI (aM 1) 70 (o29.2 1), ai cI (aM 2) 70 (o29.2 2), ai cI (aM 3) 40 (o29.2 3), ai cI (aM 4) 80 (o29.2 4), ai cZ (aM 5) 2 (o29.2 5), ai cI (aM 6) 200 (o29.2 6), ai cI (aM 8) 12 (o29.2 8), ai cI (aM 10) 12 (o29.2 10), ai cI (aM 18) 427 (o29.2 18), ai cI (aM 21) 100 (o29.2 21), ai cI (aM 23) 100 (o29.2 23), ai cI (aM 24) 100 (o29.2 24), ai cI (aM 26) 7 (o29.2 26), ai cI (aM 27) 5 (o29.2 27), ai cI (aM 28) 64 (o29.2 28)] := hD
      refine lv_istore_n (lv' := [(3, .int o29.1), (0, .ref (aM 0)), (1, .int x1), (2, .int x2)]) hx hb dX6_soonest_32 rfl hl (by decide) rfl (fun ls hl => ?_)
      refine lv_iload_n hx hb dX6_soonest_33 rfl (lv_at hl 0 rfl) ?_
      refine lv_bipush (v := (-9 : Int32)) hx hb dX6_soonest_34 k_bipush_n9 ?_
      refine lv_icmp_eq (tgt := 43) hx hb dX6_soonest_36 (by decide) (fun c36 => ?_) (fun c36 => ?_)
      · have h := (if_pos c36).symm.trans h
        refine lv_iload_n hx hb dX6_soonest_43 rfl (lv_at hl 0 rfl) ?_
        have hres := Option.some.inj h
        subst hres
        exact hRet 44 _ _ _ hP hD hS dX6_soonest_44
      · have h := (if_neg c36).symm.trans h
        refine lv_iload_n hx hb dX6_soonest_39 rfl (lv_at hl 3 rfl) ?_
        refine lv_if_ge (tgt := 45) hx hb dX6_soonest_40 (by decide) (fun c40 => ?_) (fun c40 => ?_)
        · have h := (if_pos c40).symm.trans h
          refine lv_aload_n hx hb dX6_soonest_45 rfl (lv_at hl 1 rfl) ?_
          refine lv_iload_n hx hb dX6_soonest_46 rfl (lv_at hl 2 rfl) ?_
          refine lv_iload_n hx hb dX6_soonest_47 rfl (lv_at hl 0 rfl) ?_
          obtain ⟨o48, ho48, h⟩ := bnd_some h
          refine call_VJ (wr := []) (As := [.int x1, .int o29.1]) (rest := []) ⟨hx, hb, hml, hown, hts⟩ (c_X6_layRow l G cI cZ aM vT o29.2 x1 o29.1 o48 ho48) (cwV 2 hts gX6_soonest_X6_layRow rfl rfl rfl hdV_X6_layRow ⟨Nat.le_of_ble_eq_true rfl, Nat.le_of_ble_eq_true rfl⟩) hEN hA hP hD hS [0, 1, 2, 3, 4, 5, 6, 7, 8, 9, 10, 11, 12, 13, 14, 15] [] rfl (by decide) rfl (by decide) (by decide) 0 rfl rfl rfl hl.1 rfl (Nat.le_of_ble_eq_true rfl) dX6_soonest_48 ⟨Nat.le_of_ble_eq_true rfl, Nat.le_of_ble_eq_true rfl⟩ (fun H locs hP hD hS => ?_)
          have hP : va_P G vwCl [oX6 aM o48 vT, ai cI (aM 1) 70 (o48 1), ai cI (aM 2) 70 (o48 2), ai cI (aM 3) 40 (o48 3), ai cI (aM 4) 80 (o48 4), ai cZ (aM 5) 2 (o48 5), ai cI (aM 6) 200 (o48 6), ai cI (aM 8) 12 (o48 8), ai cI (aM 10) 12 (o48 10), ai cI (aM 18) 427 (o48 18), ai cI (aM 21) 100 (o48 21), ai cI (aM 23) 100 (o48 23), ai cI (aM 24) 100 (o48 24), ai cI (aM 26) 7 (o48 26), ai cI (aM 27) 5 (o48 27), ai cI (aM 28) 64 (o48 28)] H := hP
          have hD : va_D A [oX6 aM o48 vT, ai cI (aM 1) 70 (o48 1), ai cI (aM 2) 70 (o48 2), ai cI (aM 3) 40 (o48 3), ai cI (aM 4) 80 (o48 4), ai cZ (aM 5) 2 (o48 5), ai cI (aM 6) 200 (o48 6), ai cI (aM 8) 12 (o48 8), ai cI (aM 10) 12 (o48 10), ai cI (aM 18) 427 (o48 18), ai cI (aM 21) 100 (o48 21), ai cI (aM 23) 100 (o48 23), ai cI (aM 24) 100 (o48 24), ai cI (aM 26) 7 (o48 26), ai cI (aM 27) 5 (o48 27), ai cI (aM 28) 64 (o48 28)] := hD
          refine lv_iload_n hx hb dX6_soonest_51 rfl (lv_at hl 3 rfl) ?_
          refine lv_aload_n hx hb dX6_soonest_52 rfl (lv_at hl 1 rfl) ?_
          refine va_get (D := G) (ci := 6) (v := .int (o48 0 21)) (C := RX6) (T := TX6) (N := 29) hx hb hts fi_X6_soonest_X6 hown hEN.1 hP 0 rfl rfl 21 (by decide) (hts (.fieldLink RX6 221 "HourWellModel" "stepMany" "I") (List.mem_of_getElem? (i := 3) rfl)) (fun _ h9 => h9) rfl dX6_soonest_53 ?_
          refine lv_icmp_ge (tgt := 68) hx hb dX6_soonest_56 (by decide) (fun c56 => ?_) (fun c56 => ?_)
          · have h := (if_pos c56).symm.trans h
            refine lv_bipush (v := (-9 : Int32)) hx hb dX6_soonest_68 k_bipush_n9 ?_
            have hres := Option.some.inj h
            subst hres
            exact hRet 70 _ _ _ hP hD hS dX6_soonest_70
          · have h := (if_neg c56).symm.trans h
            refine lv_aload_n hx hb dX6_soonest_59 rfl (lv_at hl 1 rfl) ?_
            refine va_get (D := G) (ci := 6) (v := .ref (aM 21)) (C := RX6) (T := TX6) (N := 29) hx hb hts fi_X6_soonest_X6 hown hEN.1 hP 0 rfl rfl 20 (by decide) (hts (.fieldLink RX6 38 "HourWellModel" "steps" "[I") (List.mem_of_getElem? (i := 4) rfl)) (fun _ h9 => h9) rfl dX6_soonest_60 ?_
            refine lv_iload_n hx hb dX6_soonest_63 rfl (lv_at hl 3 rfl) ?_
            obtain ⟨hg64, h⟩ := grd_some h
            refine va_iald (f := (o48 21)) hx hb hEN.1 hP 10 0 rfl rfl (inb_in hg64) dX6_soonest_64 ?_
            refine lv_goto (tgt := 70) hx hb dX6_soonest_65 (by decide) ?_
            have hres := Option.some.inj h
            subst hres
            exact hRet 70 _ _ _ hP hD hS dX6_soonest_70
        · have h := (if_neg c40).symm.trans h
          refine lv_iload_n hx hb dX6_soonest_43 rfl (lv_at hl 0 rfl) ?_
          have hres := Option.some.inj h
          subst hres
          exact hRet 44 _ _ _ hP hD hS dX6_soonest_44
    · have h := (if_pos c18).symm.trans h
      refine lv_iconst (v := (-1 : Int32)) hx hb dX6_soonest_21 k_iconst_n1 ?_
      have hres := Option.some.inj h
      subst hres
      exact hRet 22 _ _ _ hP hD hS dX6_soonest_22
abbrev rm_X6_latest : Room := { frames := 5, cells := 0, slots := 0, locals := 127 }
theorem fi_X6_latest_X6 : ∀ w ∈ wsX60, w ∈ wsX6_latest := fun _ h => List.mem_cons_of_mem _ (List.mem_append_right _ h)
theorem hdV_X6_latest : yX6_latest.cls = RX6 ∧ yX6_latest.cls ≠ "java/lang/invoke/MethodHandle" ∧ yX6_latest.cls ≠ "java/lang/invoke/VarHandle" ∧ (parseMethodDescriptor yX6_latest.desc).map (fun d => d.parameters.length) = some 2 := by decide +kernel
set_option maxRecDepth 100000 in
set_option maxHeartbeats 4000000 in
theorem c_X6_latest (l : Launch) (G : va_G) (cI cZ : ClassId) (aM : Nat → Nat) (vT : Int64) (vM : Ob) (x1 : Int32) (x2 : Int32) (res : Int32 × Ob) (h : m_X6_latest vM x1 x2 = some res) : Ct l yX6_latest wsX6_latest rm_X6_latest G cI cZ [.ref (aM 0), .int x1, .int x2] [oX6 aM vM vT, ai cI (aM 1) 70 (vM 1), ai cI (aM 2) 70 (vM 2), ai cI (aM 3) 40 (vM 3), ai cI (aM 4) 80 (vM 4), ai cZ (aM 5) 2 (vM 5), ai cI (aM 6) 200 (vM 6), ai cI (aM 8) 12 (vM 8), ai cI (aM 10) 12 (vM 10), ai cI (aM 18) 427 (vM 18), ai cI (aM 21) 100 (vM 21), ai cI (aM 23) 100 (vM 23), ai cI (aM 24) 100 (vM 24), ai cI (aM 26) 7 (vM 26), ai cI (aM 27) 5 (vM 27), ai cI (aM 28) 64 (vM 28)] (some (.int res.1)) [oX6 aM res.2 vT, ai cI (aM 1) 70 (res.2 1), ai cI (aM 2) 70 (res.2 2), ai cI (aM 3) 40 (res.2 3), ai cI (aM 4) 80 (res.2 4), ai cZ (aM 5) 2 (res.2 5), ai cI (aM 6) 200 (res.2 6), ai cI (aM 8) 12 (res.2 8), ai cI (aM 10) 12 (res.2 10), ai cI (aM 18) 427 (res.2 18), ai cI (aM 21) 100 (res.2 21), ai cI (aM 23) 100 (res.2 23), ai cI (aM 24) 100 (res.2 24), ai cI (aM 26) 7 (res.2 26), ai cI (aM 27) 5 (res.2 27), ai cI (aM 28) 64 (res.2 28)] := by
  refine Ct.of_i (maxL := 4) (by decide) rfl (Nat.le_of_ble_eq_true rfl) ?_
  intro p e s m below meth c args hx hb hml hown hts A hA hEN hP hD hS Q hRet ls hl
  have hown : s.vm.findClass RX6 = some m.cls := hown
  have hl : lv_has ls 4 [(0, .ref (aM 0)), (1, .int x1), (2, .int x2)] := hl
  have L45 : ∀ (out : (Int32 × Ob) ⊕ (Ob)), (∀ r : Int32 × Ob, out = Sum.inl r → r = res) → (∀ ex : Ob, out = Sum.inr ex → ∀ (H : Heap) (locs : List Loc) (ls : Array Slot), va_P G vwCl [oX6 aM ex vT, ai cI (aM 1) 70 (ex 1), ai cI (aM 2) 70 (ex 2), ai cI (aM 3) 40 (ex 3), ai cI (aM 4) 80 (ex 4), ai cZ (aM 5) 2 (ex 5), ai cI (aM 6) 200 (ex 6), ai cI (aM 8) 12 (ex 8), ai cI (aM 10) 12 (ex 10), ai cI (aM 18) 427 (ex 18), ai cI (aM 21) 100 (ex 21), ai cI (aM 23) 100 (ex 23), ai cI (aM 24) 100 (ex 24), ai cI (aM 26) 7 (ex 26), ai cI (aM 27) 5 (ex 27), ai cI (aM 28) 64 (ex 28)] H → va_D A [oX6 aM ex vT, ai cI (aM 1) 70 (ex 1), ai cI (aM 2) 70 (ex 2), ai cI (aM 3) 40 (ex 3), ai cI (aM 4) 80 (ex 4), ai cZ (aM 5) 2 (ex 5), ai cI (aM 6) 200 (ex 6), ai cI (aM 8) 12 (ex 8), ai cI (aM 10) 12 (ex 10), ai cI (aM 18) 427 (ex 18), ai cI (aM 21) 100 (ex 21), ai cI (aM 23) 100 (ex 23), ai cI (aM 24) 100 (ex 24), ai cI (aM 26) 7 (ex 26), ai cI (aM 27) 5 (ex 27), ai cI (aM 28) 64 (ex 28)] → va_S A s.heap H locs → lv_has ls 4 [] → W p l e rm_X6_latest s m args below meth c H locs 0 0 Q (F0 m 77 ls [])) → ∀ (n : Nat) (vM : Ob) (x3 : Int32), m_X6_latest_L45  n vM x3 = some out → ∀ (H : Heap) (locs : List Loc) (ls : Array Slot), va_P G vwCl [oX6 aM vM vT, ai cI (aM 1) 70 (vM 1), ai cI (aM 2) 70 (vM 2), ai cI (aM 3) 40 (vM 3), ai cI (aM 4) 80 (vM 4), ai cZ (aM 5) 2 (vM 5), ai cI (aM 6) 200 (vM 6), ai cI (aM 8) 12 (vM 8), ai cI (aM 10) 12 (vM 10), ai cI (aM 18) 427 (vM 18), ai cI (aM 21) 100 (vM 21), ai cI (aM 23) 100 (vM 23), ai cI (aM 24) 100 (vM 24), ai cI (aM 26) 7 (vM 26), ai cI (aM 27) 5 (vM 27), ai cI (aM 28) 64 (vM 28)] H → va_D A [oX6 aM vM vT, ai cI (aM 1) 70 (vM 1), ai cI (aM 2) 70 (vM 2), ai cI (aM 3) 40 (vM 3), ai cI (aM 4) 80 (vM 4), ai cZ (aM 5) 2 (vM 5), ai cI (aM 6) 200 (vM 6), ai cI (aM 8) 12 (vM 8), ai cI (aM 10) 12 (vM 10), ai cI (aM 18) 427 (vM 18), ai cI (aM 21) 100 (vM 21), ai cI (aM 23) 100 (vM 23), ai cI (aM 24) 100 (vM 24), ai cI (aM 26) 7 (vM 26), ai cI (aM 27) 5 (vM 27), ai cI (aM 28) 64 (vM 28)] → va_S A s.heap H locs → lv_has ls 4 [(0, .ref (aM 0)), (3, .int x3)] → W p l e rm_X6_latest s m args below meth c H locs 0 0 Q (F0 m 45 ls []) := by
    intro out hKr hKx
    intro n
    induction n with
    | zero => intro vM x3 h; exact nomatch (show (none : Option ((Int32 × Ob) ⊕ (Ob))) = some out from h)
    | succ n hrc =>
      intro vM x3 h H locs ls hP hD hS hl
      have h : m_X6_latest_L45B  (m_X6_latest_L45  n) vM x3 = some out := h
      generalize m_X6_latest_L45  n = rc at h hrc
      unfold m_X6_latest_L45B at h
      refine lv_iload_n hx hb dX6_latest_45 rfl (lv_at hl 1 rfl) ?_
      refine lv_if_lt (tgt := 77) hx hb dX6_latest_46 (by decide) (fun c46 => ?_) (fun c46 => ?_)
      · have h := (if_pos c46).symm.trans h
        exact hKx _ (Option.some.inj h).symm _ _ _ hP hD hS (lv_sub hl [] rfl)
      · have h := (if_neg c46).symm.trans h
        refine lv_aload_n hx hb dX6_latest_49 rfl (lv_at hl 0 rfl) ?_
        refine lv_iload_n hx hb dX6_latest_50 rfl (lv_at hl 1 rfl) ?_
        refine lv_aload_n hx hb dX6_latest_51 rfl (lv_at hl 0 rfl) ?_
        refine va_get (D := G) (ci := 6) (v := .ref (aM 3)) (C := RX6) (T := TX6) (N := 29) hx hb hts fi_X6_latest_X6 hown hEN.1 hP 0 rfl rfl 2 (by decide) (hts (.fieldLink RX6 16 "HourWellModel" "he" "[I") (List.mem_of_getElem? (i := 3) rfl)) (fun _ h9 => h9) rfl dX6_latest_52 ?_
        refine lv_iconst (v := (0 : Int32)) hx hb dX6_latest_55 k_iconst_0 ?_
        refine va_iald (f := (vM 3)) hx hb hEN.1 hP 3 0 rfl rfl (inb_in (i := (0 : Int32)) (n := 40) rfl) dX6_latest_56 ?_
        refine lv_aload_n hx hb dX6_latest_57 rfl (lv_at hl 0 rfl) ?_
        refine va_get (D := G) (ci := 6) (v := .ref (aM 3)) (C := RX6) (T := TX6) (N := 29) hx hb hts fi_X6_latest_X6 hown hEN.1 hP 0 rfl rfl 2 (by decide) (hts (.fieldLink RX6 16 "HourWellModel" "he" "[I") (List.mem_of_getElem? (i := 3) rfl)) (fun _ h9 => h9) rfl dX6_latest_58 ?_
        refine lv_iconst (v := (2 : Int32)) hx hb dX6_latest_61 k_iconst_2 ?_
        refine va_iald (f := (vM 3)) hx hb hEN.1 hP 3 0 rfl rfl (inb_in (i := (2 : Int32)) (n := 40) rfl) dX6_latest_62 ?_
        obtain ⟨o63, ho63, h⟩ := bnd_some h
        refine call_V0 (As := [.int x3, .int ((vM 3) (Int32.toNatClampNeg (0 : Int32))), .int ((vM 3) (Int32.toNatClampNeg (2 : Int32)))]) (rest := []) ⟨hx, hb, hml, hown, hts⟩ (c_X6_canBe l G cI cZ aM vT vM x3 ((vM 3) (Int32.toNatClampNeg (0 : Int32))) ((vM 3) (Int32.toNatClampNeg (2 : Int32))) o63 ho63) (cwV 3 hts gX6_latest_X6_canBe rfl rfl rfl hdV_X6_canBe ⟨Nat.le_of_ble_eq_true rfl, Nat.le_of_ble_eq_true rfl⟩) hEN hA hP hD hS [0, 9] rfl (by decide) 0 rfl rfl rfl hl.1 rfl (Nat.le_of_ble_eq_true rfl) dX6_latest_63 ⟨Nat.le_of_ble_eq_true rfl, Nat.le_of_ble_eq_true rfl⟩ (fun H locs hP hS => ?_)
        refine lv_if_eq (tgt := 71) hx hb dX6_latest_66 (by decide) (fun c66 => ?_) (fun c66 => ?_)
        · have h := (if_pos c66).symm.trans h
          refine lv_iinc (v := (x3 + (-1 : Int32))) (lv' := [(3, .int (x3 + (-1 : Int32))), (0, .ref (aM 0))]) hx hb dX6_latest_71 hl (k := 1) rfl (congrArg (fun z => x3 + z) k_iconst_n1) (by decide) rfl (fun ls hl => ?_)
          refine lv_goto (tgt := 45) hx hb dX6_latest_74 (by decide) ?_
          exact hrc vM (x3 + (-1 : Int32)) h _ _ _ hP hD hS (lv_sub hl [1, 0] rfl)
        · have h := (if_neg c66).symm.trans h
          refine lv_iload_n hx hb dX6_latest_69 rfl (lv_at hl 1 rfl) ?_
          have hres := hKr _ (Option.some.inj h).symm
          subst hres
          exact hRet 70 _ _ _ hP hD hS dX6_latest_70
  unfold m_X6_latest at h
  refine lv_iload_n hx hb dX6_latest_0 rfl (lv_at hl 1 rfl) ?_
  obtain ⟨o1, ho1, h⟩ := bnd_some h
  refine call_S0 (As := [.int x1]) (rest := []) ⟨hx, hb, hml, hown, hts⟩ (c_X6_isThing l G cI cZ  x1 o1 ho1) (va_cwS 1 hts gX6_latest_X6_isThing rfl rfl rfl hdS_X6_isThing ⟨Nat.le_of_ble_eq_true rfl, Nat.le_of_ble_eq_true rfl⟩) hEN hA hP hD hS [] rfl (by decide) rfl hl.1 rfl (Nat.le_of_ble_eq_true rfl) dX6_latest_1 ⟨Nat.le_of_ble_eq_true rfl, Nat.le_of_ble_eq_true rfl⟩ (fun H locs hP hS => ?_)
  refine lv_if_eq (tgt := 19) hx hb dX6_latest_4 (by decide) (fun c4 => ?_) (fun c4 => ?_)
  · have h := (if_pos c4).symm.trans h
    refine lv_iconst (v := (-1 : Int32)) hx hb dX6_latest_19 k_iconst_n1 ?_
    have hres := Option.some.inj h
    subst hres
    exact hRet 20 _ _ _ hP hD hS dX6_latest_20
  · have h := (if_neg c4).symm.trans h
    refine lv_iload_n hx hb dX6_latest_7 rfl (lv_at hl 2 rfl) ?_
    refine lv_i2l (v := (Int32.toInt64 x2)) hx hb dX6_latest_8 rfl ?_
    refine lv_lconst (v := (0 : Int64)) hx hb dX6_latest_9 (by decide) ?_
    refine lv_ldc2 (v := (60 : Int64)) hx hb hown (hts (.constantLong RX6 247 (60)) (List.mem_of_getElem? (i := 1) rfl)) dX6_latest_10 ?_
    obtain ⟨o13, ho13, h⟩ := bnd_some h
    refine call_S0 (As := [.long (Int32.toInt64 x2), .long (0 : Int64), .long (60 : Int64)]) (rest := []) ⟨hx, hb, hml, hown, hts⟩ (c_X6_in l G cI cZ  (Int32.toInt64 x2) (0 : Int64) (60 : Int64) o13 ho13) (va_cwS 3 hts gX6_latest_X6_in rfl rfl rfl hdS_X6_in ⟨Nat.le_of_ble_eq_true rfl, Nat.le_of_ble_eq_true rfl⟩) hEN hA hP hD hS [] rfl (by decide) rfl hl.1 rfl (Nat.le_of_ble_eq_true rfl) dX6_latest_13 ⟨Nat.le_of_ble_eq_true rfl, Nat.le_of_ble_eq_true rfl⟩ (fun H locs hP hS => ?_)
    refine lv_if_ne (tgt := 21) hx hb dX6_latest_16 (by decide) (fun c16 => ?_) (fun c16 => ?_)
    · have h := (if_neg c16).symm.trans h
      refine lv_aload_n hx hb dX6_latest_21 rfl (lv_at hl 0 rfl) ?_
      refine va_get (D := G) (ci := 6) (v := .ref (aM 1)) (C := RX6) (T := TX6) (N := 29) hx hb hts fi_X6_latest_X6 hown hEN.1 hP 0 rfl rfl 0 (by decide) (hts (.fieldLink RX6 7 "HourWellModel" "tale" "[I") (List.mem_of_getElem? (i := 2) rfl)) (fun _ h9 => h9) rfl dX6_latest_22 ?_
      refine lv_iconst (v := (0 : Int32)) hx hb dX6_latest_25 k_iconst_0 ?_
      refine va_iald (f := (vM 1)) hx hb hEN.1 hP 1 0 rfl rfl (inb_in (i := (0 : Int32)) (n := 70) rfl) dX6_latest_26 ?_
      refine lv_if_ne (tgt := 33) hx hb dX6_latest_27 (by decide) (fun c27 => ?_) (fun c27 => ?_)
      · have h := (if_neg c27).symm.trans h
        refine lv_aload_n hx hb dX6_latest_33 rfl (lv_at hl 0 rfl) ?_
        obtain ⟨o34, ho34, h⟩ := bnd_some h
        refine call_VJ (wr := []) (As := []) (rest := []) ⟨hx, hb, hml, hown, hts⟩ (c_X6_withAll l G cI cZ aM vT vM o34 ho34) (cwV 0 hts gX6_latest_X6_withAll rfl rfl rfl hdV_X6_withAll ⟨Nat.le_of_ble_eq_true rfl, Nat.le_of_ble_eq_true rfl⟩) hEN hA hP hD hS [0, 1, 2, 3, 4, 5, 6, 7, 8, 9, 10, 11, 12, 13, 14, 15] [] rfl (by decide) rfl (by decide) (by decide) 0 rfl rfl rfl hl.1 rfl (Nat.le_of_ble_eq_true rfl) dX6_latest_34 ⟨Nat.le_of_ble_eq_true rfl, Nat.le_of_ble_eq_true rfl⟩ (fun H locs hP hD hS => ?_)
        have hP : va_P G vwCl [oX6 aM o34 vT, ai cI (aM 1) 70 (o34 1), ai cI (aM 2) 70 (o34 2), ai cI (aM 3) 40 (o34 3), ai cI (aM 4) 80 (o34 4), ai cZ (aM 5) 2 (o34 5), ai cI (aM 6) 200 (o34 6), ai cI (aM 8) 12 (o34 8), ai cI (aM 10) 12 (o34 10), ai cI (aM 18) 427 (o34 18), ai cI (aM 21) 100 (o34 21), ai cI (aM 23) 100 (o34 23), ai cI (aM 24) 100 (o34 24), ai cI (aM 26) 7 (o34 26), ai cI (aM 27) 5 (o34 27), ai cI (aM 28) 64 (o34 28)] H := hP
        have hD : va_D A [oX6 aM o34 vT, ai cI (aM 1) 70 (o34 1), ai cI (aM 2) 70 (o34 2), ai cI (aM 3) 40 (o34 3), ai cI (aM 4) 80 (o34 4), ai cZ (aM 5) 2 (o34 5), ai cI (aM 6) 200 (o34 6), ai cI (aM 8) 12 (o34 8), ai cI (aM 10) 12 (o34 10), ai cI (aM 18) 427 (o34 18), ai cI (aM 21) 100 (o34 21), ai cI (aM 23) 100 (o34 23), ai cI (aM 24) 100 (o34 24), ai cI (aM 26) 7 (o34 26), ai cI (aM 27) 5 (o34 27), ai cI (aM 28) 64 (o34 28)] := hD
        refine lv_aload_n hx hb dX6_latest_37 rfl (lv_at hl 0 rfl) ?_
        refine lv_iload_n hx hb dX6_latest_38 rfl (lv_at hl 1 rfl) ?_
        refine lv_iload_n hx hb dX6_latest_39 rfl (lv_at hl 2 rfl) ?_
        obtain ⟨o40, ho40, h⟩ := bnd_some h
        refine call_VJ (wr := []) (As := [.int x1, .int x2]) (rest := []) ⟨hx, hb, hml, hown, hts⟩ (c_X6_layWays l G cI cZ aM vT o34 x1 x2 o40 ho40) (cwV 2 hts gX6_latest_X6_layWays rfl rfl rfl hdV_X6_layWays ⟨Nat.le_of_ble_eq_true rfl, Nat.le_of_ble_eq_true rfl⟩) hEN hA hP hD hS [0, 1, 2, 3, 4, 5, 6, 7, 8, 9, 10, 11, 12, 13, 14, 15] [] rfl (by decide) rfl (by decide) (by decide) 0 rfl rfl rfl hl.1 rfl (Nat.le_of_ble_eq_true rfl) dX6_latest_40 ⟨Nat.le_of_ble_eq_true rfl, Nat.le_of_ble_eq_true rfl⟩ (fun H locs hP hD hS => ?_)
        have hP : va_P G vwCl [oX6 aM o40 vT, ai cI (aM 1) 70 (o40 1), ai cI (aM 2) 70 (o40 2), ai cI (aM 3) 40 (o40 3), ai cI (aM 4) 80 (o40 4), ai cZ (aM 5) 2 (o40 5), ai cI (aM 6) 200 (o40 6), ai cI (aM 8) 12 (o40 8), ai cI (aM 10) 12 (o40 10), ai cI (aM 18) 427 (o40 18), ai cI (aM 21) 100 (o40 21), ai cI (aM 23) 100 (o40 23), ai cI (aM 24) 100 (o40 24), ai cI (aM 26) 7 (o40 26), ai cI (aM 27) 5 (o40 27), ai cI (aM 28) 64 (o40 28)] H := hP
        have hD : va_D A [oX6 aM o40 vT, ai cI (aM 1) 70 (o40 1), ai cI (aM 2) 70 (o40 2), ai cI (aM 3) 40 (o40 3), ai cI (aM 4) 80 (o40 4), ai cZ (aM 5) 2 (o40 5), ai cI (aM 6) 200 (o40 6), ai cI (aM 8) 12 (o40 8), ai cI (aM 10) 12 (o40 10), ai cI (aM 18) 427 (o40 18), ai cI (aM 21) 100 (o40 21), ai cI (aM 23) 100 (o40 23), ai cI (aM 24) 100 (o40 24), ai cI (aM 26) 7 (o40 26), ai cI (aM 27) 5 (o40 27), ai cI (aM 28) 64 (o40 28)] := hD
        refine lv_iload_n hx hb dX6_latest_43 rfl (lv_at hl 2 rfl) ?_
        refine lv_istore_n (lv' := [(3, .int x2), (0, .ref (aM 0)), (1, .int x1), (2, .int x2)]) hx hb dX6_latest_44 rfl hl (by decide) rfl (fun ls hl => ?_)
        obtain ⟨o45_1, ho45_1, h⟩ := bnd_some h
        refine L45 o45_1 (fun r er => ?_) (fun o45_1x er H locs ls hP hD hS hl => ?_) FU o40 x2 ho45_1 _ _ _ hP hD hS (lv_sub hl [1, 0] rfl)
        · subst er
          have h := (sm_l _ _ _).symm.trans h
          exact Option.some.inj h
        · subst er
          have h := (sm_r _ _ _).symm.trans h
          refine lv_bipush (v := (-9 : Int32)) hx hb dX6_latest_77 k_bipush_n9 ?_
          have hres := Option.some.inj h
          subst hres
          exact hRet 79 _ _ _ hP hD hS dX6_latest_79
      · have h := (if_pos c27).symm.trans h
        refine lv_bipush (v := (-9 : Int32)) hx hb dX6_latest_30 k_bipush_n9 ?_
        have hres := Option.some.inj h
        subst hres
        exact hRet 32 _ _ _ hP hD hS dX6_latest_32
    · have h := (if_pos c16).symm.trans h
      refine lv_iconst (v := (-1 : Int32)) hx hb dX6_latest_19 k_iconst_n1 ?_
      have hres := Option.some.inj h
      subst hres
      exact hRet 20 _ _ _ hP hD hS dX6_latest_20
abbrev rm_X6_without : Room := { frames := 6, cells := 0, slots := 0, locals := 149 }
theorem fi_X6_without_X6 : ∀ w ∈ wsX60, w ∈ wsX6_without := fun _ h => List.mem_cons_of_mem _ (List.mem_append_right _ h)
theorem hdV_X6_without : yX6_without.cls = RX6 ∧ yX6_without.cls ≠ "java/lang/invoke/MethodHandle" ∧ yX6_without.cls ≠ "java/lang/invoke/VarHandle" ∧ (parseMethodDescriptor yX6_without.desc).map (fun d => d.parameters.length) = some 2 := by decide +kernel
set_option maxRecDepth 100000 in
set_option maxHeartbeats 4000000 in
theorem c_X6_without (l : Launch) (G : va_G) (cI cZ : ClassId) (aM : Nat → Nat) (vT : Int64) (vM : Ob) (x1 : Int32) (x2 : Int32) (res : Int32 × Ob) (h : m_X6_without vM x1 x2 = some res) : Ct l yX6_without wsX6_without rm_X6_without G cI cZ [.ref (aM 0), .int x1, .int x2] [oX6 aM vM vT, ai cI (aM 1) 70 (vM 1), ai cI (aM 2) 70 (vM 2), ai cI (aM 3) 40 (vM 3), ai cI (aM 4) 80 (vM 4), ai cZ (aM 5) 2 (vM 5), ai cI (aM 6) 200 (vM 6), ai cI (aM 8) 12 (vM 8), ai cI (aM 10) 12 (vM 10), ai cI (aM 18) 427 (vM 18), ai cI (aM 21) 100 (vM 21), ai cI (aM 23) 100 (vM 23), ai cI (aM 24) 100 (vM 24), ai cI (aM 26) 7 (vM 26), ai cI (aM 27) 5 (vM 27), ai cI (aM 28) 64 (vM 28)] (some (.int res.1)) [oX6 aM res.2 vT, ai cI (aM 1) 70 (res.2 1), ai cI (aM 2) 70 (res.2 2), ai cI (aM 3) 40 (res.2 3), ai cI (aM 4) 80 (res.2 4), ai cZ (aM 5) 2 (res.2 5), ai cI (aM 6) 200 (res.2 6), ai cI (aM 8) 12 (res.2 8), ai cI (aM 10) 12 (res.2 10), ai cI (aM 18) 427 (res.2 18), ai cI (aM 21) 100 (res.2 21), ai cI (aM 23) 100 (res.2 23), ai cI (aM 24) 100 (res.2 24), ai cI (aM 26) 7 (res.2 26), ai cI (aM 27) 5 (res.2 27), ai cI (aM 28) 64 (res.2 28)] := by
  refine Ct.of_i (maxL := 5) (by decide) rfl (Nat.le_of_ble_eq_true rfl) ?_
  intro p e s m below meth c args hx hb hml hown hts A hA hEN hP hD hS Q hRet ls hl
  have hown : s.vm.findClass RX6 = some m.cls := hown
  have hl : lv_has ls 5 [(0, .ref (aM 0)), (1, .int x1), (2, .int x2)] := hl
  have L44 : ∀ (out : Ob × Int32), (∀ ex : Ob × Int32, out = ex → ∀ (H : Heap) (locs : List Loc) (ls : Array Slot), va_P G vwCl [oX6 aM ex.1 vT, ai cI (aM 1) 70 (ex.1 1), ai cI (aM 2) 70 (ex.1 2), ai cI (aM 3) 40 (ex.1 3), ai cI (aM 4) 80 (ex.1 4), ai cZ (aM 5) 2 (ex.1 5), ai cI (aM 6) 200 (ex.1 6), ai cI (aM 8) 12 (ex.1 8), ai cI (aM 10) 12 (ex.1 10), ai cI (aM 18) 427 (ex.1 18), ai cI (aM 21) 100 (ex.1 21), ai cI (aM 23) 100 (ex.1 23), ai cI (aM 24) 100 (ex.1 24), ai cI (aM 26) 7 (ex.1 26), ai cI (aM 27) 5 (ex.1 27), ai cI (aM 28) 64 (ex.1 28)] H → va_D A [oX6 aM ex.1 vT, ai cI (aM 1) 70 (ex.1 1), ai cI (aM 2) 70 (ex.1 2), ai cI (aM 3) 40 (ex.1 3), ai cI (aM 4) 80 (ex.1 4), ai cZ (aM 5) 2 (ex.1 5), ai cI (aM 6) 200 (ex.1 6), ai cI (aM 8) 12 (ex.1 8), ai cI (aM 10) 12 (ex.1 10), ai cI (aM 18) 427 (ex.1 18), ai cI (aM 21) 100 (ex.1 21), ai cI (aM 23) 100 (ex.1 23), ai cI (aM 24) 100 (ex.1 24), ai cI (aM 26) 7 (ex.1 26), ai cI (aM 27) 5 (ex.1 27), ai cI (aM 28) 64 (ex.1 28)] → va_S A s.heap H locs → lv_has ls 5 [(3, .int ex.2)] → W p l e rm_X6_without s m args below meth c H locs 0 0 Q (F0 m 113 ls [])) → ∀ (n : Nat) (vM : Ob) (x1 : Int32) (x2 : Int32) (x3 : Int32) (x4 : Int32), m_X6_without_L44  n vM x1 x2 x3 x4 = some out → ∀ (H : Heap) (locs : List Loc) (ls : Array Slot), va_P G vwCl [oX6 aM vM vT, ai cI (aM 1) 70 (vM 1), ai cI (aM 2) 70 (vM 2), ai cI (aM 3) 40 (vM 3), ai cI (aM 4) 80 (vM 4), ai cZ (aM 5) 2 (vM 5), ai cI (aM 6) 200 (vM 6), ai cI (aM 8) 12 (vM 8), ai cI (aM 10) 12 (vM 10), ai cI (aM 18) 427 (vM 18), ai cI (aM 21) 100 (vM 21), ai cI (aM 23) 100 (vM 23), ai cI (aM 24) 100 (vM 24), ai cI (aM 26) 7 (vM 26), ai cI (aM 27) 5 (vM 27), ai cI (aM 28) 64 (vM 28)] H → va_D A [oX6 aM vM vT, ai cI (aM 1) 70 (vM 1), ai cI (aM 2) 70 (vM 2), ai cI (aM 3) 40 (vM 3), ai cI (aM 4) 80 (vM 4), ai cZ (aM 5) 2 (vM 5), ai cI (aM 6) 200 (vM 6), ai cI (aM 8) 12 (vM 8), ai cI (aM 10) 12 (vM 10), ai cI (aM 18) 427 (vM 18), ai cI (aM 21) 100 (vM 21), ai cI (aM 23) 100 (vM 23), ai cI (aM 24) 100 (vM 24), ai cI (aM 26) 7 (vM 26), ai cI (aM 27) 5 (vM 27), ai cI (aM 28) 64 (vM 28)] → va_S A s.heap H locs → lv_has ls 5 [(0, .ref (aM 0)), (1, .int x1), (2, .int x2), (3, .int x3), (4, .int x4)] → W p l e rm_X6_without s m args below meth c H locs 0 0 Q (F0 m 44 ls []) := by
    intro out hKx
    have j105 : ∀ (rc : Ob → Int32 → Int32 → Int32 → Int32 → Option (Ob × Int32)), (∀ (vM : Ob) (x1 : Int32) (x2 : Int32) (x3 : Int32) (x4 : Int32), rc vM x1 x2 x3 x4 = some out → ∀ (H : Heap) (locs : List Loc) (ls : Array Slot), va_P G vwCl [oX6 aM vM vT, ai cI (aM 1) 70 (vM 1), ai cI (aM 2) 70 (vM 2), ai cI (aM 3) 40 (vM 3), ai cI (aM 4) 80 (vM 4), ai cZ (aM 5) 2 (vM 5), ai cI (aM 6) 200 (vM 6), ai cI (aM 8) 12 (vM 8), ai cI (aM 10) 12 (vM 10), ai cI (aM 18) 427 (vM 18), ai cI (aM 21) 100 (vM 21), ai cI (aM 23) 100 (vM 23), ai cI (aM 24) 100 (vM 24), ai cI (aM 26) 7 (vM 26), ai cI (aM 27) 5 (vM 27), ai cI (aM 28) 64 (vM 28)] H → va_D A [oX6 aM vM vT, ai cI (aM 1) 70 (vM 1), ai cI (aM 2) 70 (vM 2), ai cI (aM 3) 40 (vM 3), ai cI (aM 4) 80 (vM 4), ai cZ (aM 5) 2 (vM 5), ai cI (aM 6) 200 (vM 6), ai cI (aM 8) 12 (vM 8), ai cI (aM 10) 12 (vM 10), ai cI (aM 18) 427 (vM 18), ai cI (aM 21) 100 (vM 21), ai cI (aM 23) 100 (vM 23), ai cI (aM 24) 100 (vM 24), ai cI (aM 26) 7 (vM 26), ai cI (aM 27) 5 (vM 27), ai cI (aM 28) 64 (vM 28)] → va_S A s.heap H locs → lv_has ls 5 [(0, .ref (aM 0)), (1, .int x1), (2, .int x2), (3, .int x3), (4, .int x4)] → W p l e rm_X6_without s m args below meth c H locs 0 0 Q (F0 m 44 ls [])) → ∀ (vM : Ob) (x1 : Int32) (x2 : Int32) (x4 : Int32) (s0 : Int32) (s1 : Int32), m_X6_without_j105  rc vM x1 x2 x4 s0 s1 = some out → ∀ (H : Heap) (locs : List Loc) (ls : Array Slot), va_P G vwCl [oX6 aM vM vT, ai cI (aM 1) 70 (vM 1), ai cI (aM 2) 70 (vM 2), ai cI (aM 3) 40 (vM 3), ai cI (aM 4) 80 (vM 4), ai cZ (aM 5) 2 (vM 5), ai cI (aM 6) 200 (vM 6), ai cI (aM 8) 12 (vM 8), ai cI (aM 10) 12 (vM 10), ai cI (aM 18) 427 (vM 18), ai cI (aM 21) 100 (vM 21), ai cI (aM 23) 100 (vM 23), ai cI (aM 24) 100 (vM 24), ai cI (aM 26) 7 (vM 26), ai cI (aM 27) 5 (vM 27), ai cI (aM 28) 64 (vM 28)] H → va_D A [oX6 aM vM vT, ai cI (aM 1) 70 (vM 1), ai cI (aM 2) 70 (vM 2), ai cI (aM 3) 40 (vM 3), ai cI (aM 4) 80 (vM 4), ai cZ (aM 5) 2 (vM 5), ai cI (aM 6) 200 (vM 6), ai cI (aM 8) 12 (vM 8), ai cI (aM 10) 12 (vM 10), ai cI (aM 18) 427 (vM 18), ai cI (aM 21) 100 (vM 21), ai cI (aM 23) 100 (vM 23), ai cI (aM 24) 100 (vM 24), ai cI (aM 26) 7 (vM 26), ai cI (aM 27) 5 (vM 27), ai cI (aM 28) 64 (vM 28)] → va_S A s.heap H locs → lv_has ls 5 [(0, .ref (aM 0)), (1, .int x1), (2, .int x2), (4, .int x4)] → W p l e rm_X6_without s m args below meth c H locs 0 0 Q (F0 m 105 ls [.int s1, .int s0]) := by
      intro rc hrc vM x1 x2 x4 s0 s1 h H locs ls hP hD hS hl
      unfold m_X6_without_j105 at h
      refine lv_ior hx hb dX6_without_105 ?_
      refine lv_istore_n (lv' := [(3, .int (s0 ||| s1)), (0, .ref (aM 0)), (1, .int x1), (2, .int x2), (4, .int x4)]) hx hb dX6_without_106 rfl hl (by decide) rfl (fun ls hl => ?_)
      refine lv_iinc (v := (x4 + (1 : Int32))) (lv' := [(4, .int (x4 + (1 : Int32))), (3, .int (s0 ||| s1)), (0, .ref (aM 0)), (1, .int x1), (2, .int x2)]) hx hb dX6_without_107 hl (k := 4) rfl (congrArg (fun z => x4 + z) k_iconst_1) (by decide) rfl (fun ls hl => ?_)
      refine lv_goto (tgt := 44) hx hb dX6_without_110 (by decide) ?_
      exact hrc vM x1 x2 (s0 ||| s1) (x4 + (1 : Int32)) h _ _ _ hP hD hS (lv_sub hl [2, 3, 4, 1, 0] rfl)
    have j83 : ∀ (rc : Ob → Int32 → Int32 → Int32 → Int32 → Option (Ob × Int32)), (∀ (vM : Ob) (x1 : Int32) (x2 : Int32) (x3 : Int32) (x4 : Int32), rc vM x1 x2 x3 x4 = some out → ∀ (H : Heap) (locs : List Loc) (ls : Array Slot), va_P G vwCl [oX6 aM vM vT, ai cI (aM 1) 70 (vM 1), ai cI (aM 2) 70 (vM 2), ai cI (aM 3) 40 (vM 3), ai cI (aM 4) 80 (vM 4), ai cZ (aM 5) 2 (vM 5), ai cI (aM 6) 200 (vM 6), ai cI (aM 8) 12 (vM 8), ai cI (aM 10) 12 (vM 10), ai cI (aM 18) 427 (vM 18), ai cI (aM 21) 100 (vM 21), ai cI (aM 23) 100 (vM 23), ai cI (aM 24) 100 (vM 24), ai cI (aM 26) 7 (vM 26), ai cI (aM 27) 5 (vM 27), ai cI (aM 28) 64 (vM 28)] H → va_D A [oX6 aM vM vT, ai cI (aM 1) 70 (vM 1), ai cI (aM 2) 70 (vM 2), ai cI (aM 3) 40 (vM 3), ai cI (aM 4) 80 (vM 4), ai cZ (aM 5) 2 (vM 5), ai cI (aM 6) 200 (vM 6), ai cI (aM 8) 12 (vM 8), ai cI (aM 10) 12 (vM 10), ai cI (aM 18) 427 (vM 18), ai cI (aM 21) 100 (vM 21), ai cI (aM 23) 100 (vM 23), ai cI (aM 24) 100 (vM 24), ai cI (aM 26) 7 (vM 26), ai cI (aM 27) 5 (vM 27), ai cI (aM 28) 64 (vM 28)] → va_S A s.heap H locs → lv_has ls 5 [(0, .ref (aM 0)), (1, .int x1), (2, .int x2), (3, .int x3), (4, .int x4)] → W p l e rm_X6_without s m args below meth c H locs 0 0 Q (F0 m 44 ls [])) → ∀ (vM : Ob) (x1 : Int32) (x2 : Int32) (x3 : Int32) (x4 : Int32) (s1 : Int32), m_X6_without_j83  rc vM x1 x2 x3 x4 s1 = some out → ∀ (H : Heap) (locs : List Loc) (ls : Array Slot), va_P G vwCl [oX6 aM vM vT, ai cI (aM 1) 70 (vM 1), ai cI (aM 2) 70 (vM 2), ai cI (aM 3) 40 (vM 3), ai cI (aM 4) 80 (vM 4), ai cZ (aM 5) 2 (vM 5), ai cI (aM 6) 200 (vM 6), ai cI (aM 8) 12 (vM 8), ai cI (aM 10) 12 (vM 10), ai cI (aM 18) 427 (vM 18), ai cI (aM 21) 100 (vM 21), ai cI (aM 23) 100 (vM 23), ai cI (aM 24) 100 (vM 24), ai cI (aM 26) 7 (vM 26), ai cI (aM 27) 5 (vM 27), ai cI (aM 28) 64 (vM 28)] H → va_D A [oX6 aM vM vT, ai cI (aM 1) 70 (vM 1), ai cI (aM 2) 70 (vM 2), ai cI (aM 3) 40 (vM 3), ai cI (aM 4) 80 (vM 4), ai cZ (aM 5) 2 (vM 5), ai cI (aM 6) 200 (vM 6), ai cI (aM 8) 12 (vM 8), ai cI (aM 10) 12 (vM 10), ai cI (aM 18) 427 (vM 18), ai cI (aM 21) 100 (vM 21), ai cI (aM 23) 100 (vM 23), ai cI (aM 24) 100 (vM 24), ai cI (aM 26) 7 (vM 26), ai cI (aM 27) 5 (vM 27), ai cI (aM 28) 64 (vM 28)] → va_S A s.heap H locs → lv_has ls 5 [(0, .ref (aM 0)), (1, .int x1), (2, .int x2), (3, .int x3), (4, .int x4)] → W p l e rm_X6_without s m args below meth c H locs 0 0 Q (F0 m 83 ls [.int s1, .ref (aM 0)]) := by
      intro rc hrc vM x1 x2 x3 x4 s1 h H locs ls hP hD hS hl
      unfold m_X6_without_j83 at h
      refine va_put (D := G) (ci := 6) (v := .int s1) (ty := .int) (C := RX6) (T := TX6) (N := 29) hx hb hts fi_X6_without_X6 tyX6 tyX6_ok nmX6 hown hEN.1 hP hD hS 0 rfl rfl 19 (by decide) (hts (.fieldLink RX6 194 "HourWellModel" "noHost" "I") (List.mem_of_getElem? (i := 3) rfl)) (fun _ h9 => h9) rfl (by decide +kernel) rfl rfl (Nat.le_of_ble_eq_true rfl) dX6_without_83 (fun H locs hP hD hS => ?_)
      have hP : va_P G vwCl [oX6 aM (st vM 0 19 s1) vT, ai cI (aM 1) 70 (vM 1), ai cI (aM 2) 70 (vM 2), ai cI (aM 3) 40 (vM 3), ai cI (aM 4) 80 (vM 4), ai cZ (aM 5) 2 (vM 5), ai cI (aM 6) 200 (vM 6), ai cI (aM 8) 12 (vM 8), ai cI (aM 10) 12 (vM 10), ai cI (aM 18) 427 (vM 18), ai cI (aM 21) 100 (vM 21), ai cI (aM 23) 100 (vM 23), ai cI (aM 24) 100 (vM 24), ai cI (aM 26) 7 (vM 26), ai cI (aM 27) 5 (vM 27), ai cI (aM 28) 64 (vM 28)] H := hP
      have hD : va_D A [oX6 aM (st vM 0 19 s1) vT, ai cI (aM 1) 70 (vM 1), ai cI (aM 2) 70 (vM 2), ai cI (aM 3) 40 (vM 3), ai cI (aM 4) 80 (vM 4), ai cZ (aM 5) 2 (vM 5), ai cI (aM 6) 200 (vM 6), ai cI (aM 8) 12 (vM 8), ai cI (aM 10) 12 (vM 10), ai cI (aM 18) 427 (vM 18), ai cI (aM 21) 100 (vM 21), ai cI (aM 23) 100 (vM 23), ai cI (aM 24) 100 (vM 24), ai cI (aM 26) 7 (vM 26), ai cI (aM 27) 5 (vM 27), ai cI (aM 28) 64 (vM 28)] := hD
      refine lv_iload_n hx hb dX6_without_86 rfl (lv_at hl 3 rfl) ?_
      refine lv_aload_n hx hb dX6_without_87 rfl (lv_at hl 0 rfl) ?_
      refine lv_iload_n hx hb dX6_without_88 rfl (lv_at hl 1 rfl) ?_
      refine lv_bipush (v := (60 : Int32)) hx hb dX6_without_89 k_bipush_60 ?_
      obtain ⟨o91, ho91, h⟩ := bnd_some h
      refine call_VJ (wr := []) (As := [.int x1, .int (60 : Int32)]) (rest := [.int x3]) ⟨hx, hb, hml, hown, hts⟩ (c_X6_isWay l G cI cZ aM vT (st vM 0 19 s1) x1 (60 : Int32) o91 ho91) (cwV 2 hts gX6_without_X6_isWay rfl rfl rfl hdV_X6_isWay ⟨Nat.le_of_ble_eq_true rfl, Nat.le_of_ble_eq_true rfl⟩) hEN hA hP hD hS [0, 1, 2, 3, 4, 5, 6, 7, 8, 9, 10, 11, 12, 13, 14, 15] [] rfl (by decide) rfl (by decide) (by decide) 0 rfl rfl rfl hl.1 rfl (Nat.le_of_ble_eq_true rfl) dX6_without_91 ⟨Nat.le_of_ble_eq_true rfl, Nat.le_of_ble_eq_true rfl⟩ (fun H locs hP hD hS => ?_)
      have hP : va_P G vwCl [oX6 aM o91.2 vT, ai cI (aM 1) 70 (o91.2 1), ai cI (aM 2) 70 (o91.2 2), ai cI (aM 3) 40 (o91.2 3), ai cI (aM 4) 80 (o91.2 4), ai cZ (aM 5) 2 (o91.2 5), ai cI (aM 6) 200 (o91.2 6), ai cI (aM 8) 12 (o91.2 8), ai cI (aM 10) 12 (o91.2 10), ai cI (aM 18) 427 (o91.2 18), ai cI (aM 21) 100 (o91.2 21), ai cI (aM 23) 100 (o91.2 23), ai cI (aM 24) 100 (o91.2 24), ai cI (aM 26) 7 (o91.2 26), ai cI (aM 27) 5 (o91.2 27), ai cI (aM 28) 64 (o91.2 28)] H := hP
      have hD : va_D A [oX6 aM o91.2 vT, ai cI (aM 1) 70 (o91.2 1), ai cI (aM 2) 70 (o91.2 2), ai cI (aM 3) 40 (o91.2 3), ai cI (aM 4) 80 (o91.2 4), ai cZ (aM 5) 2 (o91.2 5), ai cI (aM 6) 200 (o91.2 6), ai cI (aM 8) 12 (o91.2 8), ai cI (aM 10) 12 (o91.2 10), ai cI (aM 18) 427 (o91.2 18), ai cI (aM 21) 100 (o91.2 21), ai cI (aM 23) 100 (o91.2 23), ai cI (aM 24) 100 (o91.2 24), ai cI (aM 26) 7 (o91.2 26), ai cI (aM 27) 5 (o91.2 27), ai cI (aM 28) 64 (o91.2 28)] := hD
      refine lv_if_eq (tgt := 101) hx hb dX6_without_94 (by decide) (fun c94 => ?_) (fun c94 => ?_)
      · have h := (if_pos c94).symm.trans h
        refine lv_iconst (v := (1 : Int32)) hx hb dX6_without_101 k_iconst_1 ?_
        refine lv_iload hx hb dX6_without_102 (lv_at hl 4 rfl) ?_
        refine lv_ishl hx hb dX6_without_104 ?_
        exact j105 rc hrc o91.2 x1 x2 x4 x3 ((1 : Int32) <<< (x4 &&& 31)) h _ _ _ hP hD hS (lv_sub hl [0, 1, 2, 4] rfl)
      · have h := (if_neg c94).symm.trans h
        refine lv_iconst (v := (0 : Int32)) hx hb dX6_without_97 k_iconst_0 ?_
        refine lv_goto (tgt := 105) hx hb dX6_without_98 (by decide) ?_
        exact j105 rc hrc o91.2 x1 x2 x4 x3 (0 : Int32) h _ _ _ hP hD hS (lv_sub hl [0, 1, 2, 4] rfl)
    have j68 : ∀ (rc : Ob → Int32 → Int32 → Int32 → Int32 → Option (Ob × Int32)), (∀ (vM : Ob) (x1 : Int32) (x2 : Int32) (x3 : Int32) (x4 : Int32), rc vM x1 x2 x3 x4 = some out → ∀ (H : Heap) (locs : List Loc) (ls : Array Slot), va_P G vwCl [oX6 aM vM vT, ai cI (aM 1) 70 (vM 1), ai cI (aM 2) 70 (vM 2), ai cI (aM 3) 40 (vM 3), ai cI (aM 4) 80 (vM 4), ai cZ (aM 5) 2 (vM 5), ai cI (aM 6) 200 (vM 6), ai cI (aM 8) 12 (vM 8), ai cI (aM 10) 12 (vM 10), ai cI (aM 18) 427 (vM 18), ai cI (aM 21) 100 (vM 21), ai cI (aM 23) 100 (vM 23), ai cI (aM 24) 100 (vM 24), ai cI (aM 26) 7 (vM 26), ai cI (aM 27) 5 (vM 27), ai cI (aM 28) 64 (vM 28)] H → va_D A [oX6 aM vM vT, ai cI (aM 1) 70 (vM 1), ai cI (aM 2) 70 (vM 2), ai cI (aM 3) 40 (vM 3), ai cI (aM 4) 80 (vM 4), ai cZ (aM 5) 2 (vM 5), ai cI (aM 6) 200 (vM 6), ai cI (aM 8) 12 (vM 8), ai cI (aM 10) 12 (vM 10), ai cI (aM 18) 427 (vM 18), ai cI (aM 21) 100 (vM 21), ai cI (aM 23) 100 (vM 23), ai cI (aM 24) 100 (vM 24), ai cI (aM 26) 7 (vM 26), ai cI (aM 27) 5 (vM 27), ai cI (aM 28) 64 (vM 28)] → va_S A s.heap H locs → lv_has ls 5 [(0, .ref (aM 0)), (1, .int x1), (2, .int x2), (3, .int x3), (4, .int x4)] → W p l e rm_X6_without s m args below meth c H locs 0 0 Q (F0 m 44 ls [])) → ∀ (vM : Ob) (x1 : Int32) (x2 : Int32) (x3 : Int32) (x4 : Int32) (s1 : Int32), m_X6_without_j68  rc vM x1 x2 x3 x4 s1 = some out → ∀ (H : Heap) (locs : List Loc) (ls : Array Slot), va_P G vwCl [oX6 aM vM vT, ai cI (aM 1) 70 (vM 1), ai cI (aM 2) 70 (vM 2), ai cI (aM 3) 40 (vM 3), ai cI (aM 4) 80 (vM 4), ai cZ (aM 5) 2 (vM 5), ai cI (aM 6) 200 (vM 6), ai cI (aM 8) 12 (vM 8), ai cI (aM 10) 12 (vM 10), ai cI (aM 18) 427 (vM 18), ai cI (aM 21) 100 (vM 21), ai cI (aM 23) 100 (vM 23), ai cI (aM 24) 100 (vM 24), ai cI (aM 26) 7 (vM 26), ai cI (aM 27) 5 (vM 27), ai cI (aM 28) 64 (vM 28)] H → va_D A [oX6 aM vM vT, ai cI (aM 1) 70 (vM 1), ai cI (aM 2) 70 (vM 2), ai cI (aM 3) 40 (vM 3), ai cI (aM 4) 80 (vM 4), ai cZ (aM 5) 2 (vM 5), ai cI (aM 6) 200 (vM 6), ai cI (aM 8) 12 (vM 8), ai cI (aM 10) 12 (vM 10), ai cI (aM 18) 427 (vM 18), ai cI (aM 21) 100 (vM 21), ai cI (aM 23) 100 (vM 23), ai cI (aM 24) 100 (vM 24), ai cI (aM 26) 7 (vM 26), ai cI (aM 27) 5 (vM 27), ai cI (aM 28) 64 (vM 28)] → va_S A s.heap H locs → lv_has ls 5 [(0, .ref (aM 0)), (1, .int x1), (2, .int x2), (3, .int x3), (4, .int x4)] → W p l e rm_X6_without s m args below meth c H locs 0 0 Q (F0 m 68 ls [.int s1, .ref (aM 0)]) := by
      intro rc hrc vM x1 x2 x3 x4 s1 h H locs ls hP hD hS hl
      unfold m_X6_without_j68 at h
      refine va_put (D := G) (ci := 6) (v := .int s1) (ty := .int) (C := RX6) (T := TX6) (N := 29) hx hb hts fi_X6_without_X6 tyX6 tyX6_ok nmX6 hown hEN.1 hP hD hS 0 rfl rfl 18 (by decide) (hts (.fieldLink RX6 191 "HourWellModel" "noRoad" "I") (List.mem_of_getElem? (i := 2) rfl)) (fun _ h9 => h9) rfl (by decide +kernel) rfl rfl (Nat.le_of_ble_eq_true rfl) dX6_without_68 (fun H locs hP hD hS => ?_)
      have hP : va_P G vwCl [oX6 aM (st vM 0 18 s1) vT, ai cI (aM 1) 70 (vM 1), ai cI (aM 2) 70 (vM 2), ai cI (aM 3) 40 (vM 3), ai cI (aM 4) 80 (vM 4), ai cZ (aM 5) 2 (vM 5), ai cI (aM 6) 200 (vM 6), ai cI (aM 8) 12 (vM 8), ai cI (aM 10) 12 (vM 10), ai cI (aM 18) 427 (vM 18), ai cI (aM 21) 100 (vM 21), ai cI (aM 23) 100 (vM 23), ai cI (aM 24) 100 (vM 24), ai cI (aM 26) 7 (vM 26), ai cI (aM 27) 5 (vM 27), ai cI (aM 28) 64 (vM 28)] H := hP
      have hD : va_D A [oX6 aM (st vM 0 18 s1) vT, ai cI (aM 1) 70 (vM 1), ai cI (aM 2) 70 (vM 2), ai cI (aM 3) 40 (vM 3), ai cI (aM 4) 80 (vM 4), ai cZ (aM 5) 2 (vM 5), ai cI (aM 6) 200 (vM 6), ai cI (aM 8) 12 (vM 8), ai cI (aM 10) 12 (vM 10), ai cI (aM 18) 427 (vM 18), ai cI (aM 21) 100 (vM 21), ai cI (aM 23) 100 (vM 23), ai cI (aM 24) 100 (vM 24), ai cI (aM 26) 7 (vM 26), ai cI (aM 27) 5 (vM 27), ai cI (aM 28) 64 (vM 28)] := hD
      refine lv_aload_n hx hb dX6_without_71 rfl (lv_at hl 0 rfl) ?_
      refine lv_iload_n hx hb dX6_without_72 rfl (lv_at hl 2 rfl) ?_
      refine lv_iconst (v := (1 : Int32)) hx hb dX6_without_73 k_iconst_1 ?_
      refine lv_icmp_ne (tgt := 82) hx hb dX6_without_74 (by decide) (fun c74 => ?_) (fun c74 => ?_)
      · have h := (if_neg c74).symm.trans h
        refine lv_iconst (v := (-1 : Int32)) hx hb dX6_without_82 k_iconst_n1 ?_
        exact j83 rc hrc (st vM 0 18 s1) x1 x2 x3 x4 (-1 : Int32) h _ _ _ hP hD hS (lv_sub hl [0, 1, 2, 3, 4] rfl)
      · have h := (if_pos c74).symm.trans h
        refine lv_iload hx hb dX6_without_77 (lv_at hl 4 rfl) ?_
        refine lv_goto (tgt := 83) hx hb dX6_without_79 (by decide) ?_
        exact j83 rc hrc (st vM 0 18 s1) x1 x2 x3 x4 x4 h _ _ _ hP hD hS (lv_sub hl [0, 1, 2, 3, 4] rfl)
    intro n
    induction n with
    | zero => intro vM x1 x2 x3 x4 h; exact nomatch (show (none : Option (Ob × Int32)) = some out from h)
    | succ n hrc =>
      intro vM x1 x2 x3 x4 h H locs ls hP hD hS hl
      have h : m_X6_without_L44B  (m_X6_without_L44  n) vM x1 x2 x3 x4 = some out := h
      generalize m_X6_without_L44  n = rc at h hrc
      unfold m_X6_without_L44B at h
      refine lv_iload hx hb dX6_without_44 (lv_at hl 4 rfl) ?_
      refine lv_aload_n hx hb dX6_without_46 rfl (lv_at hl 0 rfl) ?_
      refine va_get (D := G) (ci := 6) (v := .ref (aM 1)) (C := RX6) (T := TX6) (N := 29) hx hb hts fi_X6_without_X6 hown hEN.1 hP 0 rfl rfl 0 (by decide) (hts (.fieldLink RX6 7 "HourWellModel" "tale" "[I") (List.mem_of_getElem? (i := 1) rfl)) (fun _ h9 => h9) rfl dX6_without_47 ?_
      refine lv_iconst (v := (1 : Int32)) hx hb dX6_without_50 k_iconst_1 ?_
      refine lv_iload_n hx hb dX6_without_51 rfl (lv_at hl 2 rfl) ?_
      refine lv_iadd hx hb dX6_without_52 ?_
      obtain ⟨hg53, h⟩ := grd_some h
      refine va_iald (f := (vM 1)) hx hb hEN.1 hP 1 0 rfl rfl (inb_in hg53) dX6_without_53 ?_
      refine lv_icmp_ge (tgt := 113) hx hb dX6_without_54 (by decide) (fun c54 => ?_) (fun c54 => ?_)
      · have h := (if_pos c54).symm.trans h
        exact hKx _ (Option.some.inj h).symm _ _ _ hP hD hS (lv_sub hl [3] rfl)
      · have h := (if_neg c54).symm.trans h
        refine lv_aload_n hx hb dX6_without_57 rfl (lv_at hl 0 rfl) ?_
        refine lv_iload_n hx hb dX6_without_58 rfl (lv_at hl 2 rfl) ?_
        refine lv_if_ne (tgt := 67) hx hb dX6_without_59 (by decide) (fun c59 => ?_) (fun c59 => ?_)
        · have h := (if_neg c59).symm.trans h
          refine lv_iconst (v := (-1 : Int32)) hx hb dX6_without_67 k_iconst_n1 ?_
          exact j68 rc hrc vM x1 x2 x3 x4 (-1 : Int32) h _ _ _ hP hD hS (lv_sub hl [0, 1, 2, 3, 4] rfl)
        · have h := (if_pos c59).symm.trans h
          refine lv_iload hx hb dX6_without_62 (lv_at hl 4 rfl) ?_
          refine lv_goto (tgt := 68) hx hb dX6_without_64 (by decide) ?_
          exact j68 rc hrc vM x1 x2 x3 x4 x4 h _ _ _ hP hD hS (lv_sub hl [0, 1, 2, 3, 4] rfl)
  unfold m_X6_without at h
  refine lv_iload_n hx hb dX6_without_0 rfl (lv_at hl 1 rfl) ?_
  obtain ⟨o1, ho1, h⟩ := bnd_some h
  refine call_S0 (As := [.int x1]) (rest := []) ⟨hx, hb, hml, hown, hts⟩ (c_X6_isThing l G cI cZ  x1 o1 ho1) (va_cwS 1 hts gX6_without_X6_isThing rfl rfl rfl hdS_X6_isThing ⟨Nat.le_of_ble_eq_true rfl, Nat.le_of_ble_eq_true rfl⟩) hEN hA hP hD hS [] rfl (by decide) rfl hl.1 rfl (Nat.le_of_ble_eq_true rfl) dX6_without_1 ⟨Nat.le_of_ble_eq_true rfl, Nat.le_of_ble_eq_true rfl⟩ (fun H locs hP hS => ?_)
  refine lv_if_eq (tgt := 14) hx hb dX6_without_4 (by decide) (fun c4 => ?_) (fun c4 => ?_)
  · have h := (if_pos c4).symm.trans h
    refine lv_iconst (v := (-1 : Int32)) hx hb dX6_without_14 k_iconst_n1 ?_
    have hres := Option.some.inj h
    subst hres
    exact hRet 15 _ _ _ hP hD hS dX6_without_15
  · have h := (if_neg c4).symm.trans h
    refine lv_iload_n hx hb dX6_without_7 rfl (lv_at hl 2 rfl) ?_
    obtain ⟨o8, ho8, h⟩ := bnd_some h
    refine call_S0 (As := [.int x2]) (rest := []) ⟨hx, hb, hml, hown, hts⟩ (c_X6_isTwo l G cI cZ  x2 o8 ho8) (va_cwS 1 hts gX6_without_X6_isTwo rfl rfl rfl hdS_X6_isTwo ⟨Nat.le_of_ble_eq_true rfl, Nat.le_of_ble_eq_true rfl⟩) hEN hA hP hD hS [] rfl (by decide) rfl hl.1 rfl (Nat.le_of_ble_eq_true rfl) dX6_without_8 ⟨Nat.le_of_ble_eq_true rfl, Nat.le_of_ble_eq_true rfl⟩ (fun H locs hP hS => ?_)
    refine lv_if_ne (tgt := 16) hx hb dX6_without_11 (by decide) (fun c11 => ?_) (fun c11 => ?_)
    · have h := (if_neg c11).symm.trans h
      refine lv_aload_n hx hb dX6_without_16 rfl (lv_at hl 0 rfl) ?_
      obtain ⟨o17, ho17, h⟩ := bnd_some h
      refine call_VJ (wr := []) (As := []) (rest := []) ⟨hx, hb, hml, hown, hts⟩ (c_X6_withAll l G cI cZ aM vT vM o17 ho17) (cwV 0 hts gX6_without_X6_withAll rfl rfl rfl hdV_X6_withAll ⟨Nat.le_of_ble_eq_true rfl, Nat.le_of_ble_eq_true rfl⟩) hEN hA hP hD hS [0, 1, 2, 3, 4, 5, 6, 7, 8, 9, 10, 11, 12, 13, 14, 15] [] rfl (by decide) rfl (by decide) (by decide) 0 rfl rfl rfl hl.1 rfl (Nat.le_of_ble_eq_true rfl) dX6_without_17 ⟨Nat.le_of_ble_eq_true rfl, Nat.le_of_ble_eq_true rfl⟩ (fun H locs hP hD hS => ?_)
      have hP : va_P G vwCl [oX6 aM o17 vT, ai cI (aM 1) 70 (o17 1), ai cI (aM 2) 70 (o17 2), ai cI (aM 3) 40 (o17 3), ai cI (aM 4) 80 (o17 4), ai cZ (aM 5) 2 (o17 5), ai cI (aM 6) 200 (o17 6), ai cI (aM 8) 12 (o17 8), ai cI (aM 10) 12 (o17 10), ai cI (aM 18) 427 (o17 18), ai cI (aM 21) 100 (o17 21), ai cI (aM 23) 100 (o17 23), ai cI (aM 24) 100 (o17 24), ai cI (aM 26) 7 (o17 26), ai cI (aM 27) 5 (o17 27), ai cI (aM 28) 64 (o17 28)] H := hP
      have hD : va_D A [oX6 aM o17 vT, ai cI (aM 1) 70 (o17 1), ai cI (aM 2) 70 (o17 2), ai cI (aM 3) 40 (o17 3), ai cI (aM 4) 80 (o17 4), ai cZ (aM 5) 2 (o17 5), ai cI (aM 6) 200 (o17 6), ai cI (aM 8) 12 (o17 8), ai cI (aM 10) 12 (o17 10), ai cI (aM 18) 427 (o17 18), ai cI (aM 21) 100 (o17 21), ai cI (aM 23) 100 (o17 23), ai cI (aM 24) 100 (o17 24), ai cI (aM 26) 7 (o17 26), ai cI (aM 27) 5 (o17 27), ai cI (aM 28) 64 (o17 28)] := hD
      refine lv_iconst (v := (0 : Int32)) hx hb dX6_without_20 k_iconst_0 ?_
      refine lv_istore_n (lv' := [(3, .int (0 : Int32)), (0, .ref (aM 0)), (1, .int x1), (2, .int x2)]) hx hb dX6_without_21 rfl hl (by decide) rfl (fun ls hl => ?_)
      refine lv_aload_n hx hb dX6_without_22 rfl (lv_at hl 1 rfl) ?_
      refine va_get (D := G) (ci := 6) (v := .ref (aM 1)) (C := RX6) (T := TX6) (N := 29) hx hb hts fi_X6_without_X6 hown hEN.1 hP 0 rfl rfl 0 (by decide) (hts (.fieldLink RX6 7 "HourWellModel" "tale" "[I") (List.mem_of_getElem? (i := 1) rfl)) (fun _ h9 => h9) rfl dX6_without_23 ?_
      refine lv_iconst (v := (0 : Int32)) hx hb dX6_without_26 k_iconst_0 ?_
      refine va_iald (f := (o17 1)) hx hb hEN.1 hP 1 0 rfl rfl (inb_in (i := (0 : Int32)) (n := 70) rfl) dX6_without_27 ?_
      refine lv_if_le (tgt := 113) hx hb dX6_without_28 (by decide) (fun c28 => ?_) (fun c28 => ?_)
      · have h := (if_pos c28).symm.trans h
        refine lv_iload_n hx hb dX6_without_113 rfl (lv_at hl 0 rfl) ?_
        have hres := Option.some.inj h
        subst hres
        exact hRet 114 _ _ _ hP hD hS dX6_without_114
      · have h := (if_neg c28).symm.trans h
        refine lv_aload_n hx hb dX6_without_31 rfl (lv_at hl 1 rfl) ?_
        refine lv_iload_n hx hb dX6_without_32 rfl (lv_at hl 2 rfl) ?_
        refine lv_bipush (v := (60 : Int32)) hx hb dX6_without_33 k_bipush_60 ?_
        obtain ⟨o35, ho35, h⟩ := bnd_some h
        refine call_VJ (wr := []) (As := [.int x1, .int (60 : Int32)]) (rest := []) ⟨hx, hb, hml, hown, hts⟩ (c_X6_isWay l G cI cZ aM vT o17 x1 (60 : Int32) o35 ho35) (cwV 2 hts gX6_without_X6_isWay rfl rfl rfl hdV_X6_isWay ⟨Nat.le_of_ble_eq_true rfl, Nat.le_of_ble_eq_true rfl⟩) hEN hA hP hD hS [0, 1, 2, 3, 4, 5, 6, 7, 8, 9, 10, 11, 12, 13, 14, 15] [] rfl (by decide) rfl (by decide) (by decide) 0 rfl rfl rfl hl.1 rfl (Nat.le_of_ble_eq_true rfl) dX6_without_35 ⟨Nat.le_of_ble_eq_true rfl, Nat.le_of_ble_eq_true rfl⟩ (fun H locs hP hD hS => ?_)
        have hP : va_P G vwCl [oX6 aM o35.2 vT, ai cI (aM 1) 70 (o35.2 1), ai cI (aM 2) 70 (o35.2 2), ai cI (aM 3) 40 (o35.2 3), ai cI (aM 4) 80 (o35.2 4), ai cZ (aM 5) 2 (o35.2 5), ai cI (aM 6) 200 (o35.2 6), ai cI (aM 8) 12 (o35.2 8), ai cI (aM 10) 12 (o35.2 10), ai cI (aM 18) 427 (o35.2 18), ai cI (aM 21) 100 (o35.2 21), ai cI (aM 23) 100 (o35.2 23), ai cI (aM 24) 100 (o35.2 24), ai cI (aM 26) 7 (o35.2 26), ai cI (aM 27) 5 (o35.2 27), ai cI (aM 28) 64 (o35.2 28)] H := hP
        have hD : va_D A [oX6 aM o35.2 vT, ai cI (aM 1) 70 (o35.2 1), ai cI (aM 2) 70 (o35.2 2), ai cI (aM 3) 40 (o35.2 3), ai cI (aM 4) 80 (o35.2 4), ai cZ (aM 5) 2 (o35.2 5), ai cI (aM 6) 200 (o35.2 6), ai cI (aM 8) 12 (o35.2 8), ai cI (aM 10) 12 (o35.2 10), ai cI (aM 18) 427 (o35.2 18), ai cI (aM 21) 100 (o35.2 21), ai cI (aM 23) 100 (o35.2 23), ai cI (aM 24) 100 (o35.2 24), ai cI (aM 26) 7 (o35.2 26), ai cI (aM 27) 5 (o35.2 27), ai cI (aM 28) 64 (o35.2 28)] := hD
        refine lv_if_eq (tgt := 113) hx hb dX6_without_38 (by decide) (fun c38 => ?_) (fun c38 => ?_)
        · have h := (if_pos c38).symm.trans h
          refine lv_iload_n hx hb dX6_without_113 rfl (lv_at hl 0 rfl) ?_
          have hres := Option.some.inj h
          subst hres
          exact hRet 114 _ _ _ hP hD hS dX6_without_114
        · have h := (if_neg c38).symm.trans h
          refine lv_iconst (v := (0 : Int32)) hx hb dX6_without_41 k_iconst_0 ?_
          refine lv_istore (lv' := [(4, .int (0 : Int32)), (3, .int (0 : Int32)), (0, .ref (aM 0)), (1, .int x1), (2, .int x2)]) hx hb dX6_without_42 hl (by decide) rfl (fun ls hl => ?_)
          obtain ⟨o44_1, ho44_1, h⟩ := bnd_some h
          refine L44 o44_1 (fun o44_1e er H locs ls hP hD hS hl => ?_) FU o35.2 x1 x2 (0 : Int32) (0 : Int32) ho44_1 _ _ _ hP hD hS (lv_sub hl [2, 3, 4, 1, 0] rfl)
          subst er
          refine lv_iload_n hx hb dX6_without_113 rfl (lv_at hl 0 rfl) ?_
          have hres := Option.some.inj h
          subst hres
          exact hRet 114 _ _ _ hP hD hS dX6_without_114
    · have h := (if_pos c11).symm.trans h
      refine lv_iconst (v := (-1 : Int32)) hx hb dX6_without_14 k_iconst_n1 ?_
      have hres := Option.some.inj h
      subst hres
      exact hRet 15 _ _ _ hP hD hS dX6_without_15
abbrev rm_X6_layFar : Room := { frames := 0, cells := 0, slots := 0, locals := 0 }
theorem fi_X6_layFar_X6 : ∀ w ∈ wsX60, w ∈ wsX6_layFar := fun _ h => List.mem_cons_of_mem _ (List.mem_append_right _ h)
theorem hdV_X6_layFar : yX6_layFar.cls = RX6 ∧ yX6_layFar.cls ≠ "java/lang/invoke/MethodHandle" ∧ yX6_layFar.cls ≠ "java/lang/invoke/VarHandle" ∧ (parseMethodDescriptor yX6_layFar.desc).map (fun d => d.parameters.length) = some 1 := by decide +kernel
set_option maxRecDepth 100000 in
set_option maxHeartbeats 4000000 in
theorem c_X6_layFar (l : Launch) (G : va_G) (cI cZ : ClassId) (aM : Nat → Nat) (vT : Int64) (vM : Ob) (x1 : Int32) (res : Ob) (h : m_X6_layFar vM x1 = some res) : Ct l yX6_layFar wsX6_layFar rm_X6_layFar G cI cZ [.ref (aM 0), .int x1] [oX6 aM vM vT, ai cI (aM 1) 70 (vM 1), ai cI (aM 2) 70 (vM 2), ai cI (aM 3) 40 (vM 3), ai cI (aM 4) 80 (vM 4), ai cZ (aM 5) 2 (vM 5), ai cI (aM 6) 200 (vM 6), ai cI (aM 8) 12 (vM 8), ai cI (aM 10) 12 (vM 10), ai cI (aM 18) 427 (vM 18), ai cI (aM 21) 100 (vM 21), ai cI (aM 23) 100 (vM 23), ai cI (aM 24) 100 (vM 24), ai cI (aM 26) 7 (vM 26), ai cI (aM 27) 5 (vM 27), ai cI (aM 28) 64 (vM 28)] none [oX6 aM res vT, ai cI (aM 1) 70 (res 1), ai cI (aM 2) 70 (res 2), ai cI (aM 3) 40 (res 3), ai cI (aM 4) 80 (res 4), ai cZ (aM 5) 2 (res 5), ai cI (aM 6) 200 (res 6), ai cI (aM 8) 12 (res 8), ai cI (aM 10) 12 (res 10), ai cI (aM 18) 427 (res 18), ai cI (aM 21) 100 (res 21), ai cI (aM 23) 100 (res 23), ai cI (aM 24) 100 (res 24), ai cI (aM 26) 7 (res 26), ai cI (aM 27) 5 (res 27), ai cI (aM 28) 64 (res 28)] := by
  refine Ct.of_v (maxL := 7) (by decide) rfl (Nat.le_of_ble_eq_true rfl) ?_
  intro p e s m below meth c args hx hb hml hown hts A hA hEN hP hD hS Q hRet ls hl
  have hown : s.vm.findClass RX6 = some m.cls := hown
  have hl : lv_has ls 7 [(0, .ref (aM 0)), (1, .int x1)] := hl
  have L2 : ∀ (out : Ob), (∀ ex : Ob, out = ex → ∀ (H : Heap) (locs : List Loc) (ls : Array Slot), va_P G vwCl [oX6 aM ex vT, ai cI (aM 1) 70 (ex 1), ai cI (aM 2) 70 (ex 2), ai cI (aM 3) 40 (ex 3), ai cI (aM 4) 80 (ex 4), ai cZ (aM 5) 2 (ex 5), ai cI (aM 6) 200 (ex 6), ai cI (aM 8) 12 (ex 8), ai cI (aM 10) 12 (ex 10), ai cI (aM 18) 427 (ex 18), ai cI (aM 21) 100 (ex 21), ai cI (aM 23) 100 (ex 23), ai cI (aM 24) 100 (ex 24), ai cI (aM 26) 7 (ex 26), ai cI (aM 27) 5 (ex 27), ai cI (aM 28) 64 (ex 28)] H → va_D A [oX6 aM ex vT, ai cI (aM 1) 70 (ex 1), ai cI (aM 2) 70 (ex 2), ai cI (aM 3) 40 (ex 3), ai cI (aM 4) 80 (ex 4), ai cZ (aM 5) 2 (ex 5), ai cI (aM 6) 200 (ex 6), ai cI (aM 8) 12 (ex 8), ai cI (aM 10) 12 (ex 10), ai cI (aM 18) 427 (ex 18), ai cI (aM 21) 100 (ex 21), ai cI (aM 23) 100 (ex 23), ai cI (aM 24) 100 (ex 24), ai cI (aM 26) 7 (ex 26), ai cI (aM 27) 5 (ex 27), ai cI (aM 28) 64 (ex 28)] → va_S A s.heap H locs → lv_has ls 7 [(0, .ref (aM 0))] → W p l e rm_X6_layFar s m args below meth c H locs 0 0 Q (F0 m 32 ls [])) → ∀ (n : Nat) (vM : Ob) (x1 : Int32) (x2 : Int32), m_X6_layFar_L2  n vM x1 x2 = some out → ∀ (H : Heap) (locs : List Loc) (ls : Array Slot), va_P G vwCl [oX6 aM vM vT, ai cI (aM 1) 70 (vM 1), ai cI (aM 2) 70 (vM 2), ai cI (aM 3) 40 (vM 3), ai cI (aM 4) 80 (vM 4), ai cZ (aM 5) 2 (vM 5), ai cI (aM 6) 200 (vM 6), ai cI (aM 8) 12 (vM 8), ai cI (aM 10) 12 (vM 10), ai cI (aM 18) 427 (vM 18), ai cI (aM 21) 100 (vM 21), ai cI (aM 23) 100 (vM 23), ai cI (aM 24) 100 (vM 24), ai cI (aM 26) 7 (vM 26), ai cI (aM 27) 5 (vM 27), ai cI (aM 28) 64 (vM 28)] H → va_D A [oX6 aM vM vT, ai cI (aM 1) 70 (vM 1), ai cI (aM 2) 70 (vM 2), ai cI (aM 3) 40 (vM 3), ai cI (aM 4) 80 (vM 4), ai cZ (aM 5) 2 (vM 5), ai cI (aM 6) 200 (vM 6), ai cI (aM 8) 12 (vM 8), ai cI (aM 10) 12 (vM 10), ai cI (aM 18) 427 (vM 18), ai cI (aM 21) 100 (vM 21), ai cI (aM 23) 100 (vM 23), ai cI (aM 24) 100 (vM 24), ai cI (aM 26) 7 (vM 26), ai cI (aM 27) 5 (vM 27), ai cI (aM 28) 64 (vM 28)] → va_S A s.heap H locs → lv_has ls 7 [(0, .ref (aM 0)), (1, .int x1), (2, .int x2)] → W p l e rm_X6_layFar s m args below meth c H locs 0 0 Q (F0 m 2 ls []) := by
    intro out hKx
    have j25 : ∀ (rc : Ob → Int32 → Int32 → Option (Ob)), (∀ (vM : Ob) (x1 : Int32) (x2 : Int32), rc vM x1 x2 = some out → ∀ (H : Heap) (locs : List Loc) (ls : Array Slot), va_P G vwCl [oX6 aM vM vT, ai cI (aM 1) 70 (vM 1), ai cI (aM 2) 70 (vM 2), ai cI (aM 3) 40 (vM 3), ai cI (aM 4) 80 (vM 4), ai cZ (aM 5) 2 (vM 5), ai cI (aM 6) 200 (vM 6), ai cI (aM 8) 12 (vM 8), ai cI (aM 10) 12 (vM 10), ai cI (aM 18) 427 (vM 18), ai cI (aM 21) 100 (vM 21), ai cI (aM 23) 100 (vM 23), ai cI (aM 24) 100 (vM 24), ai cI (aM 26) 7 (vM 26), ai cI (aM 27) 5 (vM 27), ai cI (aM 28) 64 (vM 28)] H → va_D A [oX6 aM vM vT, ai cI (aM 1) 70 (vM 1), ai cI (aM 2) 70 (vM 2), ai cI (aM 3) 40 (vM 3), ai cI (aM 4) 80 (vM 4), ai cZ (aM 5) 2 (vM 5), ai cI (aM 6) 200 (vM 6), ai cI (aM 8) 12 (vM 8), ai cI (aM 10) 12 (vM 10), ai cI (aM 18) 427 (vM 18), ai cI (aM 21) 100 (vM 21), ai cI (aM 23) 100 (vM 23), ai cI (aM 24) 100 (vM 24), ai cI (aM 26) 7 (vM 26), ai cI (aM 27) 5 (vM 27), ai cI (aM 28) 64 (vM 28)] → va_S A s.heap H locs → lv_has ls 7 [(0, .ref (aM 0)), (1, .int x1), (2, .int x2)] → W p l e rm_X6_layFar s m args below meth c H locs 0 0 Q (F0 m 2 ls [])) → ∀ (vM : Ob) (x1 : Int32) (x2 : Int32) (s1 : Int32) (s2 : Int32), m_X6_layFar_j25  rc vM x1 x2 s1 s2 = some out → ∀ (H : Heap) (locs : List Loc) (ls : Array Slot), va_P G vwCl [oX6 aM vM vT, ai cI (aM 1) 70 (vM 1), ai cI (aM 2) 70 (vM 2), ai cI (aM 3) 40 (vM 3), ai cI (aM 4) 80 (vM 4), ai cZ (aM 5) 2 (vM 5), ai cI (aM 6) 200 (vM 6), ai cI (aM 8) 12 (vM 8), ai cI (aM 10) 12 (vM 10), ai cI (aM 18) 427 (vM 18), ai cI (aM 21) 100 (vM 21), ai cI (aM 23) 100 (vM 23), ai cI (aM 24) 100 (vM 24), ai cI (aM 26) 7 (vM 26), ai cI (aM 27) 5 (vM 27), ai cI (aM 28) 64 (vM 28)] H → va_D A [oX6 aM vM vT, ai cI (aM 1) 70 (vM 1), ai cI (aM 2) 70 (vM 2), ai cI (aM 3) 40 (vM 3), ai cI (aM 4) 80 (vM 4), ai cZ (aM 5) 2 (vM 5), ai cI (aM 6) 200 (vM 6), ai cI (aM 8) 12 (vM 8), ai cI (aM 10) 12 (vM 10), ai cI (aM 18) 427 (vM 18), ai cI (aM 21) 100 (vM 21), ai cI (aM 23) 100 (vM 23), ai cI (aM 24) 100 (vM 24), ai cI (aM 26) 7 (vM 26), ai cI (aM 27) 5 (vM 27), ai cI (aM 28) 64 (vM 28)] → va_S A s.heap H locs → lv_has ls 7 [(0, .ref (aM 0)), (1, .int x1), (2, .int x2)] → W p l e rm_X6_layFar s m args below meth c H locs 0 0 Q (F0 m 25 ls [.int s2, .int s1, .ref (aM 26)]) := by
      intro rc hrc vM x1 x2 s1 s2 h H locs ls hP hD hS hl
      unfold m_X6_layFar_j25 at h
      obtain ⟨hg25, h⟩ := grd_some h
      refine va_iast (f := (vM 26)) hx hb hEN.1 hP hD hS 13 0 rfl rfl (inb_in hg25) dX6_layFar_25 (fun H locs hP hD hS => ?_)
      have hP : va_P G vwCl [oX6 aM vM vT, ai cI (aM 1) 70 (vM 1), ai cI (aM 2) 70 (vM 2), ai cI (aM 3) 40 (vM 3), ai cI (aM 4) 80 (vM 4), ai cZ (aM 5) 2 (vM 5), ai cI (aM 6) 200 (vM 6), ai cI (aM 8) 12 (vM 8), ai cI (aM 10) 12 (vM 10), ai cI (aM 18) 427 (vM 18), ai cI (aM 21) 100 (vM 21), ai cI (aM 23) 100 (vM 23), ai cI (aM 24) 100 (vM 24), ai cI (aM 26) 7 (upd (vM 26) (Int32.toNatClampNeg s1) s2), ai cI (aM 27) 5 (vM 27), ai cI (aM 28) 64 (vM 28)] H := hP
      have hD : va_D A [oX6 aM vM vT, ai cI (aM 1) 70 (vM 1), ai cI (aM 2) 70 (vM 2), ai cI (aM 3) 40 (vM 3), ai cI (aM 4) 80 (vM 4), ai cZ (aM 5) 2 (vM 5), ai cI (aM 6) 200 (vM 6), ai cI (aM 8) 12 (vM 8), ai cI (aM 10) 12 (vM 10), ai cI (aM 18) 427 (vM 18), ai cI (aM 21) 100 (vM 21), ai cI (aM 23) 100 (vM 23), ai cI (aM 24) 100 (vM 24), ai cI (aM 26) 7 (upd (vM 26) (Int32.toNatClampNeg s1) s2), ai cI (aM 27) 5 (vM 27), ai cI (aM 28) 64 (vM 28)] := hD
      refine lv_iinc (v := (x2 + (1 : Int32))) (lv' := [(2, .int (x2 + (1 : Int32))), (0, .ref (aM 0)), (1, .int x1)]) hx hb dX6_layFar_26 hl (k := 2) rfl (congrArg (fun z => x2 + z) k_iconst_1) (by decide) rfl (fun ls hl => ?_)
      refine lv_goto (tgt := 2) hx hb dX6_layFar_29 (by decide) ?_
      exact hrc (st vM 26 (Int32.toNatClampNeg s1) s2) x1 (x2 + (1 : Int32)) h _ _ _ hP hD hS (lv_sub hl [1, 2, 0] rfl)
    intro n
    induction n with
    | zero => intro vM x1 x2 h; exact nomatch (show (none : Option (Ob)) = some out from h)
    | succ n hrc =>
      intro vM x1 x2 h H locs ls hP hD hS hl
      have h : m_X6_layFar_L2B  (m_X6_layFar_L2  n) vM x1 x2 = some out := h
      generalize m_X6_layFar_L2  n = rc at h hrc
      unfold m_X6_layFar_L2B at h
      refine lv_iload_n hx hb dX6_layFar_2 rfl (lv_at hl 2 rfl) ?_
      refine lv_bipush (v := (7 : Int32)) hx hb dX6_layFar_3 k_bipush_7 ?_
      refine lv_icmp_ge (tgt := 32) hx hb dX6_layFar_5 (by decide) (fun c5 => ?_) (fun c5 => ?_)
      · have h := (if_pos c5).symm.trans h
        exact hKx _ (Option.some.inj h).symm _ _ _ hP hD hS (lv_sub hl [0] rfl)
      · have h := (if_neg c5).symm.trans h
        refine lv_aload_n hx hb dX6_layFar_8 rfl (lv_at hl 0 rfl) ?_
        refine va_get (D := G) (ci := 6) (v := .ref (aM 26)) (C := RX6) (T := TX6) (N := 29) hx hb hts fi_X6_layFar_X6 hown hEN.1 hP 0 rfl rfl 25 (by decide) (hts (.fieldLink RX6 47 "HourWellModel" "far" "[I") (List.mem_of_getElem? (i := 1) rfl)) (fun _ h9 => h9) rfl dX6_layFar_9 ?_
        refine lv_iload_n hx hb dX6_layFar_12 rfl (lv_at hl 2 rfl) ?_
        refine lv_iload_n hx hb dX6_layFar_13 rfl (lv_at hl 2 rfl) ?_
        refine lv_iload_n hx hb dX6_layFar_14 rfl (lv_at hl 1 rfl) ?_
        refine lv_icmp_ne (tgt := 22) hx hb dX6_layFar_15 (by decide) (fun c15 => ?_) (fun c15 => ?_)
        · have h := (if_neg c15).symm.trans h
          refine lv_sipush (v := (9999 : Int32)) hx hb dX6_layFar_22 k_sipush_9999 ?_
          exact j25 rc hrc vM x1 x2 x2 (9999 : Int32) h _ _ _ hP hD hS (lv_sub hl [0, 1, 2] rfl)
        · have h := (if_pos c15).symm.trans h
          refine lv_iconst (v := (0 : Int32)) hx hb dX6_layFar_18 k_iconst_0 ?_
          refine lv_goto (tgt := 25) hx hb dX6_layFar_19 (by decide) ?_
          exact j25 rc hrc vM x1 x2 x2 (0 : Int32) h _ _ _ hP hD hS (lv_sub hl [0, 1, 2] rfl)
  have L42 : ∀ (out : Ob × Int32), (∀ ex : Ob × Int32, out = ex → ∀ (H : Heap) (locs : List Loc) (ls : Array Slot), va_P G vwCl [oX6 aM ex.1 vT, ai cI (aM 1) 70 (ex.1 1), ai cI (aM 2) 70 (ex.1 2), ai cI (aM 3) 40 (ex.1 3), ai cI (aM 4) 80 (ex.1 4), ai cZ (aM 5) 2 (ex.1 5), ai cI (aM 6) 200 (ex.1 6), ai cI (aM 8) 12 (ex.1 8), ai cI (aM 10) 12 (ex.1 10), ai cI (aM 18) 427 (ex.1 18), ai cI (aM 21) 100 (ex.1 21), ai cI (aM 23) 100 (ex.1 23), ai cI (aM 24) 100 (ex.1 24), ai cI (aM 26) 7 (ex.1 26), ai cI (aM 27) 5 (ex.1 27), ai cI (aM 28) 64 (ex.1 28)] H → va_D A [oX6 aM ex.1 vT, ai cI (aM 1) 70 (ex.1 1), ai cI (aM 2) 70 (ex.1 2), ai cI (aM 3) 40 (ex.1 3), ai cI (aM 4) 80 (ex.1 4), ai cZ (aM 5) 2 (ex.1 5), ai cI (aM 6) 200 (ex.1 6), ai cI (aM 8) 12 (ex.1 8), ai cI (aM 10) 12 (ex.1 10), ai cI (aM 18) 427 (ex.1 18), ai cI (aM 21) 100 (ex.1 21), ai cI (aM 23) 100 (ex.1 23), ai cI (aM 24) 100 (ex.1 24), ai cI (aM 26) 7 (ex.1 26), ai cI (aM 27) 5 (ex.1 27), ai cI (aM 28) 64 (ex.1 28)] → va_S A s.heap H locs → lv_has ls 7 [(0, .ref (aM 0)), (2, .int ex.2)] → W p l e rm_X6_layFar s m args below meth c H locs 0 0 Q (F0 m 185 ls [])) → ∀ (n : Nat) (vM : Ob) (x2 : Int32) (x3 : Int32), m_X6_layFar_L42  n vM x2 x3 = some out → ∀ (H : Heap) (locs : List Loc) (ls : Array Slot), va_P G vwCl [oX6 aM vM vT, ai cI (aM 1) 70 (vM 1), ai cI (aM 2) 70 (vM 2), ai cI (aM 3) 40 (vM 3), ai cI (aM 4) 80 (vM 4), ai cZ (aM 5) 2 (vM 5), ai cI (aM 6) 200 (vM 6), ai cI (aM 8) 12 (vM 8), ai cI (aM 10) 12 (vM 10), ai cI (aM 18) 427 (vM 18), ai cI (aM 21) 100 (vM 21), ai cI (aM 23) 100 (vM 23), ai cI (aM 24) 100 (vM 24), ai cI (aM 26) 7 (vM 26), ai cI (aM 27) 5 (vM 27), ai cI (aM 28) 64 (vM 28)] H → va_D A [oX6 aM vM vT, ai cI (aM 1) 70 (vM 1), ai cI (aM 2) 70 (vM 2), ai cI (aM 3) 40 (vM 3), ai cI (aM 4) 80 (vM 4), ai cZ (aM 5) 2 (vM 5), ai cI (aM 6) 200 (vM 6), ai cI (aM 8) 12 (vM 8), ai cI (aM 10) 12 (vM 10), ai cI (aM 18) 427 (vM 18), ai cI (aM 21) 100 (vM 21), ai cI (aM 23) 100 (vM 23), ai cI (aM 24) 100 (vM 24), ai cI (aM 26) 7 (vM 26), ai cI (aM 27) 5 (vM 27), ai cI (aM 28) 64 (vM 28)] → va_S A s.heap H locs → lv_has ls 7 [(0, .ref (aM 0)), (2, .int x2), (3, .int x3)] → W p l e rm_X6_layFar s m args below meth c H locs 0 0 Q (F0 m 42 ls []) := by
    intro out hKx
    have j178 : ∀ (rc : Ob → Int32 → Int32 → Option (Ob × Int32)), (∀ (vM : Ob) (x2 : Int32) (x3 : Int32), rc vM x2 x3 = some out → ∀ (H : Heap) (locs : List Loc) (ls : Array Slot), va_P G vwCl [oX6 aM vM vT, ai cI (aM 1) 70 (vM 1), ai cI (aM 2) 70 (vM 2), ai cI (aM 3) 40 (vM 3), ai cI (aM 4) 80 (vM 4), ai cZ (aM 5) 2 (vM 5), ai cI (aM 6) 200 (vM 6), ai cI (aM 8) 12 (vM 8), ai cI (aM 10) 12 (vM 10), ai cI (aM 18) 427 (vM 18), ai cI (aM 21) 100 (vM 21), ai cI (aM 23) 100 (vM 23), ai cI (aM 24) 100 (vM 24), ai cI (aM 26) 7 (vM 26), ai cI (aM 27) 5 (vM 27), ai cI (aM 28) 64 (vM 28)] H → va_D A [oX6 aM vM vT, ai cI (aM 1) 70 (vM 1), ai cI (aM 2) 70 (vM 2), ai cI (aM 3) 40 (vM 3), ai cI (aM 4) 80 (vM 4), ai cZ (aM 5) 2 (vM 5), ai cI (aM 6) 200 (vM 6), ai cI (aM 8) 12 (vM 8), ai cI (aM 10) 12 (vM 10), ai cI (aM 18) 427 (vM 18), ai cI (aM 21) 100 (vM 21), ai cI (aM 23) 100 (vM 23), ai cI (aM 24) 100 (vM 24), ai cI (aM 26) 7 (vM 26), ai cI (aM 27) 5 (vM 27), ai cI (aM 28) 64 (vM 28)] → va_S A s.heap H locs → lv_has ls 7 [(0, .ref (aM 0)), (2, .int x2), (3, .int x3)] → W p l e rm_X6_layFar s m args below meth c H locs 0 0 Q (F0 m 42 ls [])) → ∀ (vM : Ob) (x2 : Int32) (x3 : Int32) (s1 : Int32) (s2 : Int32), m_X6_layFar_j178  rc vM x2 x3 s1 s2 = some out → ∀ (H : Heap) (locs : List Loc) (ls : Array Slot), va_P G vwCl [oX6 aM vM vT, ai cI (aM 1) 70 (vM 1), ai cI (aM 2) 70 (vM 2), ai cI (aM 3) 40 (vM 3), ai cI (aM 4) 80 (vM 4), ai cZ (aM 5) 2 (vM 5), ai cI (aM 6) 200 (vM 6), ai cI (aM 8) 12 (vM 8), ai cI (aM 10) 12 (vM 10), ai cI (aM 18) 427 (vM 18), ai cI (aM 21) 100 (vM 21), ai cI (aM 23) 100 (vM 23), ai cI (aM 24) 100 (vM 24), ai cI (aM 26) 7 (vM 26), ai cI (aM 27) 5 (vM 27), ai cI (aM 28) 64 (vM 28)] H → va_D A [oX6 aM vM vT, ai cI (aM 1) 70 (vM 1), ai cI (aM 2) 70 (vM 2), ai cI (aM 3) 40 (vM 3), ai cI (aM 4) 80 (vM 4), ai cZ (aM 5) 2 (vM 5), ai cI (aM 6) 200 (vM 6), ai cI (aM 8) 12 (vM 8), ai cI (aM 10) 12 (vM 10), ai cI (aM 18) 427 (vM 18), ai cI (aM 21) 100 (vM 21), ai cI (aM 23) 100 (vM 23), ai cI (aM 24) 100 (vM 24), ai cI (aM 26) 7 (vM 26), ai cI (aM 27) 5 (vM 27), ai cI (aM 28) 64 (vM 28)] → va_S A s.heap H locs → lv_has ls 7 [(0, .ref (aM 0)), (2, .int x2), (3, .int x3)] → W p l e rm_X6_layFar s m args below meth c H locs 0 0 Q (F0 m 178 ls [.int s2, .int s1, .ref (aM 26)]) := by
      intro rc hrc vM x2 x3 s1 s2 h H locs ls hP hD hS hl
      unfold m_X6_layFar_j178 at h
      obtain ⟨hg178, h⟩ := grd_some h
      refine va_iast (f := (vM 26)) hx hb hEN.1 hP hD hS 13 0 rfl rfl (inb_in hg178) dX6_layFar_178 (fun H locs hP hD hS => ?_)
      have hP : va_P G vwCl [oX6 aM vM vT, ai cI (aM 1) 70 (vM 1), ai cI (aM 2) 70 (vM 2), ai cI (aM 3) 40 (vM 3), ai cI (aM 4) 80 (vM 4), ai cZ (aM 5) 2 (vM 5), ai cI (aM 6) 200 (vM 6), ai cI (aM 8) 12 (vM 8), ai cI (aM 10) 12 (vM 10), ai cI (aM 18) 427 (vM 18), ai cI (aM 21) 100 (vM 21), ai cI (aM 23) 100 (vM 23), ai cI (aM 24) 100 (vM 24), ai cI (aM 26) 7 (upd (vM 26) (Int32.toNatClampNeg s1) s2), ai cI (aM 27) 5 (vM 27), ai cI (aM 28) 64 (vM 28)] H := hP
      have hD : va_D A [oX6 aM vM vT, ai cI (aM 1) 70 (vM 1), ai cI (aM 2) 70 (vM 2), ai cI (aM 3) 40 (vM 3), ai cI (aM 4) 80 (vM 4), ai cZ (aM 5) 2 (vM 5), ai cI (aM 6) 200 (vM 6), ai cI (aM 8) 12 (vM 8), ai cI (aM 10) 12 (vM 10), ai cI (aM 18) 427 (vM 18), ai cI (aM 21) 100 (vM 21), ai cI (aM 23) 100 (vM 23), ai cI (aM 24) 100 (vM 24), ai cI (aM 26) 7 (upd (vM 26) (Int32.toNatClampNeg s1) s2), ai cI (aM 27) 5 (vM 27), ai cI (aM 28) 64 (vM 28)] := hD
      refine lv_iinc (v := (x3 + (1 : Int32))) (lv' := [(3, .int (x3 + (1 : Int32))), (0, .ref (aM 0)), (2, .int x2)]) hx hb dX6_layFar_179 hl (k := 2) rfl (congrArg (fun z => x3 + z) k_iconst_1) (by decide) rfl (fun ls hl => ?_)
      refine lv_goto (tgt := 42) hx hb dX6_layFar_182 (by decide) ?_
      exact hrc (st vM 26 (Int32.toNatClampNeg s1) s2) x2 (x3 + (1 : Int32)) h _ _ _ hP hD hS (lv_sub hl [1, 2, 0] rfl)
    have j131 : ∀ (rc : Ob → Int32 → Int32 → Option (Ob × Int32)), (∀ (vM : Ob) (x2 : Int32) (x3 : Int32), rc vM x2 x3 = some out → ∀ (H : Heap) (locs : List Loc) (ls : Array Slot), va_P G vwCl [oX6 aM vM vT, ai cI (aM 1) 70 (vM 1), ai cI (aM 2) 70 (vM 2), ai cI (aM 3) 40 (vM 3), ai cI (aM 4) 80 (vM 4), ai cZ (aM 5) 2 (vM 5), ai cI (aM 6) 200 (vM 6), ai cI (aM 8) 12 (vM 8), ai cI (aM 10) 12 (vM 10), ai cI (aM 18) 427 (vM 18), ai cI (aM 21) 100 (vM 21), ai cI (aM 23) 100 (vM 23), ai cI (aM 24) 100 (vM 24), ai cI (aM 26) 7 (vM 26), ai cI (aM 27) 5 (vM 27), ai cI (aM 28) 64 (vM 28)] H → va_D A [oX6 aM vM vT, ai cI (aM 1) 70 (vM 1), ai cI (aM 2) 70 (vM 2), ai cI (aM 3) 40 (vM 3), ai cI (aM 4) 80 (vM 4), ai cZ (aM 5) 2 (vM 5), ai cI (aM 6) 200 (vM 6), ai cI (aM 8) 12 (vM 8), ai cI (aM 10) 12 (vM 10), ai cI (aM 18) 427 (vM 18), ai cI (aM 21) 100 (vM 21), ai cI (aM 23) 100 (vM 23), ai cI (aM 24) 100 (vM 24), ai cI (aM 26) 7 (vM 26), ai cI (aM 27) 5 (vM 27), ai cI (aM 28) 64 (vM 28)] → va_S A s.heap H locs → lv_has ls 7 [(0, .ref (aM 0)), (2, .int x2), (3, .int x3)] → W p l e rm_X6_layFar s m args below meth c H locs 0 0 Q (F0 m 42 ls [])) → ∀ (vM : Ob) (x2 : Int32) (x3 : Int32) (x4 : Int32) (x5 : Int32) (x6 : Int32) (s1 : Int32) (s2 : Int32), m_X6_layFar_j131  rc vM x2 x3 x4 x5 x6 s1 s2 = some out → ∀ (H : Heap) (locs : List Loc) (ls : Array Slot), va_P G vwCl [oX6 aM vM vT, ai cI (aM 1) 70 (vM 1), ai cI (aM 2) 70 (vM 2), ai cI (aM 3) 40 (vM 3), ai cI (aM 4) 80 (vM 4), ai cZ (aM 5) 2 (vM 5), ai cI (aM 6) 200 (vM 6), ai cI (aM 8) 12 (vM 8), ai cI (aM 10) 12 (vM 10), ai cI (aM 18) 427 (vM 18), ai cI (aM 21) 100 (vM 21), ai cI (aM 23) 100 (vM 23), ai cI (aM 24) 100 (vM 24), ai cI (aM 26) 7 (vM 26), ai cI (aM 27) 5 (vM 27), ai cI (aM 28) 64 (vM 28)] H → va_D A [oX6 aM vM vT, ai cI (aM 1) 70 (vM 1), ai cI (aM 2) 70 (vM 2), ai cI (aM 3) 40 (vM 3), ai cI (aM 4) 80 (vM 4), ai cZ (aM 5) 2 (vM 5), ai cI (aM 6) 200 (vM 6), ai cI (aM 8) 12 (vM 8), ai cI (aM 10) 12 (vM 10), ai cI (aM 18) 427 (vM 18), ai cI (aM 21) 100 (vM 21), ai cI (aM 23) 100 (vM 23), ai cI (aM 24) 100 (vM 24), ai cI (aM 26) 7 (vM 26), ai cI (aM 27) 5 (vM 27), ai cI (aM 28) 64 (vM 28)] → va_S A s.heap H locs → lv_has ls 7 [(0, .ref (aM 0)), (2, .int x2), (3, .int x3), (4, .int x4), (5, .int x5), (6, .int x6)] → W p l e rm_X6_layFar s m args below meth c H locs 0 0 Q (F0 m 131 ls [.int s2, .int s1, .ref (aM 26)]) := by
      intro rc hrc vM x2 x3 x4 x5 x6 s1 s2 h H locs ls hP hD hS hl
      unfold m_X6_layFar_j131 at h
      obtain ⟨hg131, h⟩ := grd_some h
      refine va_iast (f := (vM 26)) hx hb hEN.1 hP hD hS 13 0 rfl rfl (inb_in hg131) dX6_layFar_131 (fun H locs hP hD hS => ?_)
      have hP : va_P G vwCl [oX6 aM vM vT, ai cI (aM 1) 70 (vM 1), ai cI (aM 2) 70 (vM 2), ai cI (aM 3) 40 (vM 3), ai cI (aM 4) 80 (vM 4), ai cZ (aM 5) 2 (vM 5), ai cI (aM 6) 200 (vM 6), ai cI (aM 8) 12 (vM 8), ai cI (aM 10) 12 (vM 10), ai cI (aM 18) 427 (vM 18), ai cI (aM 21) 100 (vM 21), ai cI (aM 23) 100 (vM 23), ai cI (aM 24) 100 (vM 24), ai cI (aM 26) 7 (upd (vM 26) (Int32.toNatClampNeg s1) s2), ai cI (aM 27) 5 (vM 27), ai cI (aM 28) 64 (vM 28)] H := hP
      have hD : va_D A [oX6 aM vM vT, ai cI (aM 1) 70 (vM 1), ai cI (aM 2) 70 (vM 2), ai cI (aM 3) 40 (vM 3), ai cI (aM 4) 80 (vM 4), ai cZ (aM 5) 2 (vM 5), ai cI (aM 6) 200 (vM 6), ai cI (aM 8) 12 (vM 8), ai cI (aM 10) 12 (vM 10), ai cI (aM 18) 427 (vM 18), ai cI (aM 21) 100 (vM 21), ai cI (aM 23) 100 (vM 23), ai cI (aM 24) 100 (vM 24), ai cI (aM 26) 7 (upd (vM 26) (Int32.toNatClampNeg s1) s2), ai cI (aM 27) 5 (vM 27), ai cI (aM 28) 64 (vM 28)] := hD
      refine lv_aload_n hx hb dX6_layFar_132 rfl (lv_at hl 0 rfl) ?_
      refine va_get (D := G) (ci := 6) (v := .ref (aM 26)) (C := RX6) (T := TX6) (N := 29) hx hb hts fi_X6_layFar_X6 hown hEN.1 hP 0 rfl rfl 25 (by decide) (hts (.fieldLink RX6 47 "HourWellModel" "far" "[I") (List.mem_of_getElem? (i := 1) rfl)) (fun _ h9 => h9) rfl dX6_layFar_133 ?_
      refine lv_iload hx hb dX6_layFar_136 (lv_at hl 4 rfl) ?_
      refine lv_aload_n hx hb dX6_layFar_138 rfl (lv_at hl 0 rfl) ?_
      refine va_get (D := G) (ci := 6) (v := .ref (aM 26)) (C := RX6) (T := TX6) (N := 29) hx hb hts fi_X6_layFar_X6 hown hEN.1 hP 0 rfl rfl 25 (by decide) (hts (.fieldLink RX6 47 "HourWellModel" "far" "[I") (List.mem_of_getElem? (i := 1) rfl)) (fun _ h9 => h9) rfl dX6_layFar_139 ?_
      refine lv_iload hx hb dX6_layFar_142 (lv_at hl 3 rfl) ?_
      obtain ⟨hg144, h⟩ := grd_some h
      refine va_iald (f := (upd (vM 26) (Int32.toNatClampNeg s1) s2)) hx hb hEN.1 hP 13 0 rfl rfl (inb_in hg144) dX6_layFar_144 ?_
      refine lv_iload hx hb dX6_layFar_145 (lv_at hl 5 rfl) ?_
      refine lv_iadd hx hb dX6_layFar_147 ?_
      refine lv_aload_n hx hb dX6_layFar_148 rfl (lv_at hl 0 rfl) ?_
      refine va_get (D := G) (ci := 6) (v := .ref (aM 26)) (C := RX6) (T := TX6) (N := 29) hx hb hts fi_X6_layFar_X6 hown hEN.1 hP 0 rfl rfl 25 (by decide) (hts (.fieldLink RX6 47 "HourWellModel" "far" "[I") (List.mem_of_getElem? (i := 1) rfl)) (fun _ h9 => h9) rfl dX6_layFar_149 ?_
      refine lv_iload hx hb dX6_layFar_152 (lv_at hl 4 rfl) ?_
      obtain ⟨hg154, h⟩ := grd_some h
      refine va_iald (f := (upd (vM 26) (Int32.toNatClampNeg s1) s2)) hx hb hEN.1 hP 13 0 rfl rfl (inb_in hg154) dX6_layFar_154 ?_
      refine lv_icmp_ge (tgt := 171) hx hb dX6_layFar_155 (by decide) (fun c155 => ?_) (fun c155 => ?_)
      · have h := (if_pos c155).symm.trans h
        refine lv_aload_n hx hb dX6_layFar_171 rfl (lv_at hl 0 rfl) ?_
        refine va_get (D := G) (ci := 6) (v := .ref (aM 26)) (C := RX6) (T := TX6) (N := 29) hx hb hts fi_X6_layFar_X6 hown hEN.1 hP 0 rfl rfl 25 (by decide) (hts (.fieldLink RX6 47 "HourWellModel" "far" "[I") (List.mem_of_getElem? (i := 1) rfl)) (fun _ h9 => h9) rfl dX6_layFar_172 ?_
        refine lv_iload hx hb dX6_layFar_175 (lv_at hl 4 rfl) ?_
        obtain ⟨hg177, h⟩ := grd_some h
        refine va_iald (f := (upd (vM 26) (Int32.toNatClampNeg s1) s2)) hx hb hEN.1 hP 13 0 rfl rfl (inb_in hg177) dX6_layFar_177 ?_
        exact j178 rc hrc (st vM 26 (Int32.toNatClampNeg s1) s2) x2 x3 x5 ((upd (vM 26) (Int32.toNatClampNeg s1) s2) (Int32.toNatClampNeg x5)) h _ _ _ hP hD hS (lv_sub hl [0, 1, 2] rfl)
      · have h := (if_neg c155).symm.trans h
        refine lv_aload_n hx hb dX6_layFar_158 rfl (lv_at hl 0 rfl) ?_
        refine va_get (D := G) (ci := 6) (v := .ref (aM 26)) (C := RX6) (T := TX6) (N := 29) hx hb hts fi_X6_layFar_X6 hown hEN.1 hP 0 rfl rfl 25 (by decide) (hts (.fieldLink RX6 47 "HourWellModel" "far" "[I") (List.mem_of_getElem? (i := 1) rfl)) (fun _ h9 => h9) rfl dX6_layFar_159 ?_
        refine lv_iload hx hb dX6_layFar_162 (lv_at hl 3 rfl) ?_
        obtain ⟨hg164, h⟩ := grd_some h
        refine va_iald (f := (upd (vM 26) (Int32.toNatClampNeg s1) s2)) hx hb hEN.1 hP 13 0 rfl rfl (inb_in hg164) dX6_layFar_164 ?_
        refine lv_iload hx hb dX6_layFar_165 (lv_at hl 5 rfl) ?_
        refine lv_iadd hx hb dX6_layFar_167 ?_
        refine lv_goto (tgt := 178) hx hb dX6_layFar_168 (by decide) ?_
        exact j178 rc hrc (st vM 26 (Int32.toNatClampNeg s1) s2) x2 x3 x5 (((upd (vM 26) (Int32.toNatClampNeg s1) s2) (Int32.toNatClampNeg x4)) + x6) h _ _ _ hP hD hS (lv_sub hl [0, 1, 2] rfl)
    intro n
    induction n with
    | zero => intro vM x2 x3 h; exact nomatch (show (none : Option (Ob × Int32)) = some out from h)
    | succ n hrc =>
      intro vM x2 x3 h H locs ls hP hD hS hl
      have h : m_X6_layFar_L42B  (m_X6_layFar_L42  n) vM x2 x3 = some out := h
      generalize m_X6_layFar_L42  n = rc at h hrc
      unfold m_X6_layFar_L42B at h
      refine lv_iload_n hx hb dX6_layFar_42 rfl (lv_at hl 2 rfl) ?_
      refine lv_aload_n hx hb dX6_layFar_43 rfl (lv_at hl 0 rfl) ?_
      refine va_get (D := G) (ci := 6) (v := .ref (aM 1)) (C := RX6) (T := TX6) (N := 29) hx hb hts fi_X6_layFar_X6 hown hEN.1 hP 0 rfl rfl 0 (by decide) (hts (.fieldLink RX6 7 "HourWellModel" "tale" "[I") (List.mem_of_getElem? (i := 2) rfl)) (fun _ h9 => h9) rfl dX6_layFar_44 ?_
      refine lv_iconst (v := (1 : Int32)) hx hb dX6_layFar_47 k_iconst_1 ?_
      refine va_iald (f := (vM 1)) hx hb hEN.1 hP 1 0 rfl rfl (inb_in (i := (1 : Int32)) (n := 70) rfl) dX6_layFar_48 ?_
      refine lv_icmp_ge (tgt := 185) hx hb dX6_layFar_49 (by decide) (fun c49 => ?_) (fun c49 => ?_)
      · have h := (if_pos c49).symm.trans h
        exact hKx _ (Option.some.inj h).symm _ _ _ hP hD hS (lv_sub hl [0, 1] rfl)
      · have h := (if_neg c49).symm.trans h
        refine lv_aload_n hx hb dX6_layFar_52 rfl (lv_at hl 0 rfl) ?_
        refine va_get (D := G) (ci := 6) (v := .ref (aM 1)) (C := RX6) (T := TX6) (N := 29) hx hb hts fi_X6_layFar_X6 hown hEN.1 hP 0 rfl rfl 0 (by decide) (hts (.fieldLink RX6 7 "HourWellModel" "tale" "[I") (List.mem_of_getElem? (i := 2) rfl)) (fun _ h9 => h9) rfl dX6_layFar_53 ?_
        refine lv_bipush (v := (25 : Int32)) hx hb dX6_layFar_56 k_bipush_25 ?_
        refine lv_iload_n hx hb dX6_layFar_58 rfl (lv_at hl 2 rfl) ?_
        refine lv_iadd hx hb dX6_layFar_59 ?_
        obtain ⟨hg60, h⟩ := grd_some h
        refine va_iald (f := (vM 1)) hx hb hEN.1 hP 1 0 rfl rfl (inb_in hg60) dX6_layFar_60 ?_
        refine lv_istore (lv' := [(4, .int ((vM 1) (Int32.toNatClampNeg ((25 : Int32) + x3)))), (0, .ref (aM 0)), (2, .int x2), (3, .int x3)]) hx hb dX6_layFar_61 hl (by decide) rfl (fun ls hl => ?_)
        refine lv_aload_n hx hb dX6_layFar_63 rfl (lv_at hl 1 rfl) ?_
        refine va_get (D := G) (ci := 6) (v := .ref (aM 1)) (C := RX6) (T := TX6) (N := 29) hx hb hts fi_X6_layFar_X6 hown hEN.1 hP 0 rfl rfl 0 (by decide) (hts (.fieldLink RX6 7 "HourWellModel" "tale" "[I") (List.mem_of_getElem? (i := 2) rfl)) (fun _ h9 => h9) rfl dX6_layFar_64 ?_
        refine lv_bipush (v := (34 : Int32)) hx hb dX6_layFar_67 k_bipush_34 ?_
        refine lv_iload_n hx hb dX6_layFar_69 rfl (lv_at hl 3 rfl) ?_
        refine lv_iadd hx hb dX6_layFar_70 ?_
        obtain ⟨hg71, h⟩ := grd_some h
        refine va_iald (f := (vM 1)) hx hb hEN.1 hP 1 0 rfl rfl (inb_in hg71) dX6_layFar_71 ?_
        refine lv_istore (lv' := [(5, .int ((vM 1) (Int32.toNatClampNeg ((34 : Int32) + x3)))), (4, .int ((vM 1) (Int32.toNatClampNeg ((25 : Int32) + x3)))), (0, .ref (aM 0)), (2, .int x2), (3, .int x3)]) hx hb dX6_layFar_72 hl (by decide) rfl (fun ls hl => ?_)
        refine lv_aload_n hx hb dX6_layFar_74 rfl (lv_at hl 2 rfl) ?_
        refine va_get (D := G) (ci := 6) (v := .ref (aM 1)) (C := RX6) (T := TX6) (N := 29) hx hb hts fi_X6_layFar_X6 hown hEN.1 hP 0 rfl rfl 0 (by decide) (hts (.fieldLink RX6 7 "HourWellModel" "tale" "[I") (List.mem_of_getElem? (i := 2) rfl)) (fun _ h9 => h9) rfl dX6_layFar_75 ?_
        refine lv_bipush (v := (43 : Int32)) hx hb dX6_layFar_78 k_bipush_43 ?_
        refine lv_iload_n hx hb dX6_layFar_80 rfl (lv_at hl 4 rfl) ?_
        refine lv_iadd hx hb dX6_layFar_81 ?_
        obtain ⟨hg82, h⟩ := grd_some h
        refine va_iald (f := (vM 1)) hx hb hEN.1 hP 1 0 rfl rfl (inb_in hg82) dX6_layFar_82 ?_
        refine lv_istore (lv' := [(6, .int ((vM 1) (Int32.toNatClampNeg ((43 : Int32) + x3)))), (5, .int ((vM 1) (Int32.toNatClampNeg ((34 : Int32) + x3)))), (4, .int ((vM 1) (Int32.toNatClampNeg ((25 : Int32) + x3)))), (0, .ref (aM 0)), (2, .int x2), (3, .int x3)]) hx hb dX6_layFar_83 hl (by decide) rfl (fun ls hl => ?_)
        refine lv_aload_n hx hb dX6_layFar_85 rfl (lv_at hl 3 rfl) ?_
        refine va_get (D := G) (ci := 6) (v := .ref (aM 26)) (C := RX6) (T := TX6) (N := 29) hx hb hts fi_X6_layFar_X6 hown hEN.1 hP 0 rfl rfl 25 (by decide) (hts (.fieldLink RX6 47 "HourWellModel" "far" "[I") (List.mem_of_getElem? (i := 1) rfl)) (fun _ h9 => h9) rfl dX6_layFar_86 ?_
        refine lv_iload hx hb dX6_layFar_89 (lv_at hl 2 rfl) ?_
        refine lv_aload_n hx hb dX6_layFar_91 rfl (lv_at hl 3 rfl) ?_
        refine va_get (D := G) (ci := 6) (v := .ref (aM 26)) (C := RX6) (T := TX6) (N := 29) hx hb hts fi_X6_layFar_X6 hown hEN.1 hP 0 rfl rfl 25 (by decide) (hts (.fieldLink RX6 47 "HourWellModel" "far" "[I") (List.mem_of_getElem? (i := 1) rfl)) (fun _ h9 => h9) rfl dX6_layFar_92 ?_
        refine lv_iload hx hb dX6_layFar_95 (lv_at hl 1 rfl) ?_
        obtain ⟨hg97, h⟩ := grd_some h
        refine va_iald (f := (vM 26)) hx hb hEN.1 hP 13 0 rfl rfl (inb_in hg97) dX6_layFar_97 ?_
        refine lv_iload hx hb dX6_layFar_98 (lv_at hl 0 rfl) ?_
        refine lv_iadd hx hb dX6_layFar_100 ?_
        refine lv_aload_n hx hb dX6_layFar_101 rfl (lv_at hl 3 rfl) ?_
        refine va_get (D := G) (ci := 6) (v := .ref (aM 26)) (C := RX6) (T := TX6) (N := 29) hx hb hts fi_X6_layFar_X6 hown hEN.1 hP 0 rfl rfl 25 (by decide) (hts (.fieldLink RX6 47 "HourWellModel" "far" "[I") (List.mem_of_getElem? (i := 1) rfl)) (fun _ h9 => h9) rfl dX6_layFar_102 ?_
        refine lv_iload hx hb dX6_layFar_105 (lv_at hl 2 rfl) ?_
        obtain ⟨hg107, h⟩ := grd_some h
        refine va_iald (f := (vM 26)) hx hb hEN.1 hP 13 0 rfl rfl (inb_in hg107) dX6_layFar_107 ?_
        refine lv_icmp_ge (tgt := 124) hx hb dX6_layFar_108 (by decide) (fun c108 => ?_) (fun c108 => ?_)
        · have h := (if_pos c108).symm.trans h
          refine lv_aload_n hx hb dX6_layFar_124 rfl (lv_at hl 3 rfl) ?_
          refine va_get (D := G) (ci := 6) (v := .ref (aM 26)) (C := RX6) (T := TX6) (N := 29) hx hb hts fi_X6_layFar_X6 hown hEN.1 hP 0 rfl rfl 25 (by decide) (hts (.fieldLink RX6 47 "HourWellModel" "far" "[I") (List.mem_of_getElem? (i := 1) rfl)) (fun _ h9 => h9) rfl dX6_layFar_125 ?_
          refine lv_iload hx hb dX6_layFar_128 (lv_at hl 2 rfl) ?_
          obtain ⟨hg130, h⟩ := grd_some h
          refine va_iald (f := (vM 26)) hx hb hEN.1 hP 13 0 rfl rfl (inb_in hg130) dX6_layFar_130 ?_
          exact j131 rc hrc vM x2 x3 ((vM 1) (Int32.toNatClampNeg ((25 : Int32) + x3))) ((vM 1) (Int32.toNatClampNeg ((34 : Int32) + x3))) ((vM 1) (Int32.toNatClampNeg ((43 : Int32) + x3))) ((vM 1) (Int32.toNatClampNeg ((25 : Int32) + x3))) ((vM 26) (Int32.toNatClampNeg ((vM 1) (Int32.toNatClampNeg ((25 : Int32) + x3))))) h _ _ _ hP hD hS (lv_sub hl [3, 4, 5, 2, 1, 0] rfl)
        · have h := (if_neg c108).symm.trans h
          refine lv_aload_n hx hb dX6_layFar_111 rfl (lv_at hl 3 rfl) ?_
          refine va_get (D := G) (ci := 6) (v := .ref (aM 26)) (C := RX6) (T := TX6) (N := 29) hx hb hts fi_X6_layFar_X6 hown hEN.1 hP 0 rfl rfl 25 (by decide) (hts (.fieldLink RX6 47 "HourWellModel" "far" "[I") (List.mem_of_getElem? (i := 1) rfl)) (fun _ h9 => h9) rfl dX6_layFar_112 ?_
          refine lv_iload hx hb dX6_layFar_115 (lv_at hl 1 rfl) ?_
          obtain ⟨hg117, h⟩ := grd_some h
          refine va_iald (f := (vM 26)) hx hb hEN.1 hP 13 0 rfl rfl (inb_in hg117) dX6_layFar_117 ?_
          refine lv_iload hx hb dX6_layFar_118 (lv_at hl 0 rfl) ?_
          refine lv_iadd hx hb dX6_layFar_120 ?_
          refine lv_goto (tgt := 131) hx hb dX6_layFar_121 (by decide) ?_
          exact j131 rc hrc vM x2 x3 ((vM 1) (Int32.toNatClampNeg ((25 : Int32) + x3))) ((vM 1) (Int32.toNatClampNeg ((34 : Int32) + x3))) ((vM 1) (Int32.toNatClampNeg ((43 : Int32) + x3))) ((vM 1) (Int32.toNatClampNeg ((25 : Int32) + x3))) (((vM 26) (Int32.toNatClampNeg ((vM 1) (Int32.toNatClampNeg ((34 : Int32) + x3))))) + ((vM 1) (Int32.toNatClampNeg ((43 : Int32) + x3)))) h _ _ _ hP hD hS (lv_sub hl [3, 4, 5, 2, 1, 0] rfl)
  have L34 : ∀ (out : Ob), (∀ ex : Ob, out = ex → ∀ (H : Heap) (locs : List Loc) (ls : Array Slot), va_P G vwCl [oX6 aM ex vT, ai cI (aM 1) 70 (ex 1), ai cI (aM 2) 70 (ex 2), ai cI (aM 3) 40 (ex 3), ai cI (aM 4) 80 (ex 4), ai cZ (aM 5) 2 (ex 5), ai cI (aM 6) 200 (ex 6), ai cI (aM 8) 12 (ex 8), ai cI (aM 10) 12 (ex 10), ai cI (aM 18) 427 (ex 18), ai cI (aM 21) 100 (ex 21), ai cI (aM 23) 100 (ex 23), ai cI (aM 24) 100 (ex 24), ai cI (aM 26) 7 (ex 26), ai cI (aM 27) 5 (ex 27), ai cI (aM 28) 64 (ex 28)] H → va_D A [oX6 aM ex vT, ai cI (aM 1) 70 (ex 1), ai cI (aM 2) 70 (ex 2), ai cI (aM 3) 40 (ex 3), ai cI (aM 4) 80 (ex 4), ai cZ (aM 5) 2 (ex 5), ai cI (aM 6) 200 (ex 6), ai cI (aM 8) 12 (ex 8), ai cI (aM 10) 12 (ex 10), ai cI (aM 18) 427 (ex 18), ai cI (aM 21) 100 (ex 21), ai cI (aM 23) 100 (ex 23), ai cI (aM 24) 100 (ex 24), ai cI (aM 26) 7 (ex 26), ai cI (aM 27) 5 (ex 27), ai cI (aM 28) 64 (ex 28)] → va_S A s.heap H locs → lv_has ls 7 [] → W p l e rm_X6_layFar s m args below meth c H locs 0 0 Q (F0 m 191 ls [])) → ∀ (n : Nat) (vM : Ob) (x2 : Int32), m_X6_layFar_L34  n vM x2 = some out → ∀ (H : Heap) (locs : List Loc) (ls : Array Slot), va_P G vwCl [oX6 aM vM vT, ai cI (aM 1) 70 (vM 1), ai cI (aM 2) 70 (vM 2), ai cI (aM 3) 40 (vM 3), ai cI (aM 4) 80 (vM 4), ai cZ (aM 5) 2 (vM 5), ai cI (aM 6) 200 (vM 6), ai cI (aM 8) 12 (vM 8), ai cI (aM 10) 12 (vM 10), ai cI (aM 18) 427 (vM 18), ai cI (aM 21) 100 (vM 21), ai cI (aM 23) 100 (vM 23), ai cI (aM 24) 100 (vM 24), ai cI (aM 26) 7 (vM 26), ai cI (aM 27) 5 (vM 27), ai cI (aM 28) 64 (vM 28)] H → va_D A [oX6 aM vM vT, ai cI (aM 1) 70 (vM 1), ai cI (aM 2) 70 (vM 2), ai cI (aM 3) 40 (vM 3), ai cI (aM 4) 80 (vM 4), ai cZ (aM 5) 2 (vM 5), ai cI (aM 6) 200 (vM 6), ai cI (aM 8) 12 (vM 8), ai cI (aM 10) 12 (vM 10), ai cI (aM 18) 427 (vM 18), ai cI (aM 21) 100 (vM 21), ai cI (aM 23) 100 (vM 23), ai cI (aM 24) 100 (vM 24), ai cI (aM 26) 7 (vM 26), ai cI (aM 27) 5 (vM 27), ai cI (aM 28) 64 (vM 28)] → va_S A s.heap H locs → lv_has ls 7 [(0, .ref (aM 0)), (2, .int x2)] → W p l e rm_X6_layFar s m args below meth c H locs 0 0 Q (F0 m 34 ls []) := by
    intro out hKx
    intro n
    induction n with
    | zero => intro vM x2 h; exact nomatch (show (none : Option (Ob)) = some out from h)
    | succ n hrc =>
      intro vM x2 h H locs ls hP hD hS hl
      have h : m_X6_layFar_L34B  (m_X6_layFar_L34  n) vM x2 = some out := h
      generalize m_X6_layFar_L34  n = rc at h hrc
      unfold m_X6_layFar_L34B at h
      refine lv_iload_n hx hb dX6_layFar_34 rfl (lv_at hl 1 rfl) ?_
      refine lv_bipush (v := (7 : Int32)) hx hb dX6_layFar_35 k_bipush_7 ?_
      refine lv_icmp_ge (tgt := 191) hx hb dX6_layFar_37 (by decide) (fun c37 => ?_) (fun c37 => ?_)
      · have h := (if_pos c37).symm.trans h
        exact hKx _ (Option.some.inj h).symm _ _ _ hP hD hS (lv_sub hl [] rfl)
      · have h := (if_neg c37).symm.trans h
        refine lv_iconst (v := (0 : Int32)) hx hb dX6_layFar_40 k_iconst_0 ?_
        refine lv_istore_n (lv' := [(3, .int (0 : Int32)), (0, .ref (aM 0)), (2, .int x2)]) hx hb dX6_layFar_41 rfl hl (by decide) rfl (fun ls hl => ?_)
        obtain ⟨o42_2, ho42_2, h⟩ := bnd_some h
        refine L42 o42_2 (fun o42_2e er H locs ls hP hD hS hl => ?_) FU vM x2 (0 : Int32) ho42_2 _ _ _ hP hD hS (lv_sub hl [1, 2, 0] rfl)
        subst er
        refine lv_iinc (v := (o42_2.2 + (1 : Int32))) (lv' := [(2, .int (o42_2.2 + (1 : Int32))), (0, .ref (aM 0))]) hx hb dX6_layFar_185 hl (k := 1) rfl (congrArg (fun z => o42_2.2 + z) k_iconst_1) (by decide) rfl (fun ls hl => ?_)
        refine lv_goto (tgt := 34) hx hb dX6_layFar_188 (by decide) ?_
        exact hrc o42_2.1 (o42_2.2 + (1 : Int32)) h _ _ _ hP hD hS (lv_sub hl [1, 0] rfl)
  unfold m_X6_layFar at h
  refine lv_iconst (v := (0 : Int32)) hx hb dX6_layFar_0 k_iconst_0 ?_
  refine lv_istore_n (lv' := [(2, .int (0 : Int32)), (0, .ref (aM 0)), (1, .int x1)]) hx hb dX6_layFar_1 rfl hl (by decide) rfl (fun ls hl => ?_)
  obtain ⟨o2_1, ho2_1, h⟩ := bnd_some h
  refine L2 o2_1 (fun o2_1e er H locs ls hP hD hS hl => ?_) FU vM x1 (0 : Int32) ho2_1 _ _ _ hP hD hS (lv_sub hl [1, 2, 0] rfl)
  subst er
  refine lv_iconst (v := (0 : Int32)) hx hb dX6_layFar_32 k_iconst_0 ?_
  refine lv_istore_n (lv' := [(2, .int (0 : Int32)), (0, .ref (aM 0))]) hx hb dX6_layFar_33 rfl hl (by decide) rfl (fun ls hl => ?_)
  obtain ⟨o34_3, ho34_3, h⟩ := bnd_some h
  refine L34 o34_3 (fun o34_3e er H locs ls hP hD hS hl => ?_) FU o2_1 (0 : Int32) ho34_3 _ _ _ hP hD hS (lv_sub hl [1, 0] rfl)
  subst er
  have hres := Option.some.inj h
  subst hres
  exact hRet 191 _ _ _ hP hD hS dX6_layFar_191
