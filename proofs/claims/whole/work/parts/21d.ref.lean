abbrev rm_X6_robbed : Room := { frames := 7, cells := 0, slots := 0, locals := 174 }
theorem fi_X6_robbed_X6 : ∀ w ∈ wsX60, w ∈ wsX6_robbed := fun _ h => List.mem_cons_of_mem _ (List.mem_append_right _ h)
theorem hdV_X6_robbed : yX6_robbed.cls = RX6 ∧ yX6_robbed.cls ≠ "java/lang/invoke/MethodHandle" ∧ yX6_robbed.cls ≠ "java/lang/invoke/VarHandle" ∧ (parseMethodDescriptor yX6_robbed.desc).map (fun d => d.parameters.length) = some 2 := by decide +kernel
set_option maxRecDepth 100000 in
set_option maxHeartbeats 4000000 in
theorem c_X6_robbed (l : Launch) (G : va_G) (cI cZ : ClassId) (aM : Nat → Nat) (vT : Int64) (vM : Ob) (x1 : Int32) (x2 : Int32) (res : Int32 × Ob) (h : m_X6_robbed vM x1 x2 = some res) : Ct l yX6_robbed wsX6_robbed rm_X6_robbed G cI cZ [.ref (aM 0), .int x1, .int x2] [oX6 aM vM vT, ai cI (aM 1) 70 (vM 1), ai cI (aM 2) 70 (vM 2), ai cI (aM 3) 40 (vM 3), ai cI (aM 4) 80 (vM 4), ai cZ (aM 5) 2 (vM 5), ai cI (aM 6) 200 (vM 6), ai cI (aM 8) 12 (vM 8), ai cI (aM 10) 12 (vM 10), ai cI (aM 18) 427 (vM 18), ai cI (aM 21) 100 (vM 21), ai cI (aM 23) 100 (vM 23), ai cI (aM 24) 100 (vM 24), ai cI (aM 26) 7 (vM 26), ai cI (aM 27) 5 (vM 27), ai cI (aM 28) 64 (vM 28)] (some (.int res.1)) [oX6 aM res.2 vT, ai cI (aM 1) 70 (res.2 1), ai cI (aM 2) 70 (res.2 2), ai cI (aM 3) 40 (res.2 3), ai cI (aM 4) 80 (res.2 4), ai cZ (aM 5) 2 (res.2 5), ai cI (aM 6) 200 (res.2 6), ai cI (aM 8) 12 (res.2 8), ai cI (aM 10) 12 (res.2 10), ai cI (aM 18) 427 (res.2 18), ai cI (aM 21) 100 (res.2 21), ai cI (aM 23) 100 (res.2 23), ai cI (aM 24) 100 (res.2 24), ai cI (aM 26) 7 (res.2 26), ai cI (aM 27) 5 (res.2 27), ai cI (aM 28) 64 (res.2 28)] := by
  refine Ct.of_i (maxL := 5) (by decide) rfl (Nat.le_of_ble_eq_true rfl) ?_
  intro p e s m below meth c args hx hb hml hown hts A hA hEN hP hD hS Q hRet ls hl
  have hown : s.vm.findClass RX6 = some m.cls := hown
  have hl : lv_has ls 5 [(0, .ref (aM 0)), (1, .int x1), (2, .int x2)] := hl
  have L50 : ∀ (out : (Int32 × Ob) ⊕ (Ob)), (∀ r : Int32 × Ob, out = Sum.inl r → r = res) → (∀ ex : Ob, out = Sum.inr ex → ∀ (H : Heap) (locs : List Loc) (ls : Array Slot), va_P G vwCl [oX6 aM ex vT, ai cI (aM 1) 70 (ex 1), ai cI (aM 2) 70 (ex 2), ai cI (aM 3) 40 (ex 3), ai cI (aM 4) 80 (ex 4), ai cZ (aM 5) 2 (ex 5), ai cI (aM 6) 200 (ex 6), ai cI (aM 8) 12 (ex 8), ai cI (aM 10) 12 (ex 10), ai cI (aM 18) 427 (ex 18), ai cI (aM 21) 100 (ex 21), ai cI (aM 23) 100 (ex 23), ai cI (aM 24) 100 (ex 24), ai cI (aM 26) 7 (ex 26), ai cI (aM 27) 5 (ex 27), ai cI (aM 28) 64 (ex 28)] H → va_D A [oX6 aM ex vT, ai cI (aM 1) 70 (ex 1), ai cI (aM 2) 70 (ex 2), ai cI (aM 3) 40 (ex 3), ai cI (aM 4) 80 (ex 4), ai cZ (aM 5) 2 (ex 5), ai cI (aM 6) 200 (ex 6), ai cI (aM 8) 12 (ex 8), ai cI (aM 10) 12 (ex 10), ai cI (aM 18) 427 (ex 18), ai cI (aM 21) 100 (ex 21), ai cI (aM 23) 100 (ex 23), ai cI (aM 24) 100 (ex 24), ai cI (aM 26) 7 (ex 26), ai cI (aM 27) 5 (ex 27), ai cI (aM 28) 64 (ex 28)] → va_S A s.heap H locs → lv_has ls 5 [] → W p l e rm_X6_robbed s m args below meth c H locs 0 0 Q (F0 m 95 ls [])) → ∀ (n : Nat) (vM : Ob) (x4 : Int32), m_X6_robbed_L50  n vM x4 = some out → ∀ (H : Heap) (locs : List Loc) (ls : Array Slot), va_P G vwCl [oX6 aM vM vT, ai cI (aM 1) 70 (vM 1), ai cI (aM 2) 70 (vM 2), ai cI (aM 3) 40 (vM 3), ai cI (aM 4) 80 (vM 4), ai cZ (aM 5) 2 (vM 5), ai cI (aM 6) 200 (vM 6), ai cI (aM 8) 12 (vM 8), ai cI (aM 10) 12 (vM 10), ai cI (aM 18) 427 (vM 18), ai cI (aM 21) 100 (vM 21), ai cI (aM 23) 100 (vM 23), ai cI (aM 24) 100 (vM 24), ai cI (aM 26) 7 (vM 26), ai cI (aM 27) 5 (vM 27), ai cI (aM 28) 64 (vM 28)] H → va_D A [oX6 aM vM vT, ai cI (aM 1) 70 (vM 1), ai cI (aM 2) 70 (vM 2), ai cI (aM 3) 40 (vM 3), ai cI (aM 4) 80 (vM 4), ai cZ (aM 5) 2 (vM 5), ai cI (aM 6) 200 (vM 6), ai cI (aM 8) 12 (vM 8), ai cI (aM 10) 12 (vM 10), ai cI (aM 18) 427 (vM 18), ai cI (aM 21) 100 (vM 21), ai cI (aM 23) 100 (vM 23), ai cI (aM 24) 100 (vM 24), ai cI (aM 26) 7 (vM 26), ai cI (aM 27) 5 (vM 27), ai cI (aM 28) 64 (vM 28)] → va_S A s.heap H locs → lv_has ls 5 [(0, .ref (aM 0)), (4, .int x4)] → W p l e rm_X6_robbed s m args below meth c H locs 0 0 Q (F0 m 50 ls []) := by
    intro out hKr hKx
    intro n
    induction n with
    | zero => intro vM x4 h; exact nomatch (show (none : Option ((Int32 × Ob) ⊕ (Ob))) = some out from h)
    | succ n hrc =>
      intro vM x4 h H locs ls hP hD hS hl
      have h : m_X6_robbed_L50B  (m_X6_robbed_L50  n) vM x4 = some out := h
      generalize m_X6_robbed_L50  n = rc at h hrc
      unfold m_X6_robbed_L50B at h
      refine lv_iload hx hb dX6_robbed_50 (lv_at hl 1 rfl) ?_
      refine lv_aload_n hx hb dX6_robbed_52 rfl (lv_at hl 0 rfl) ?_
      refine va_get (D := G) (ci := 6) (v := .int (vM 0 24)) (C := RX6) (T := TX6) (N := 29) hx hb hts fi_X6_robbed_X6 hown hEN.1 hP 0 rfl rfl 24 (by decide) (hts (.fieldLink RX6 224 "HourWellModel" "enteredMany" "I") (List.mem_of_getElem? (i := 1) rfl)) (fun _ h9 => h9) rfl dX6_robbed_53 ?_
      refine lv_icmp_ge (tgt := 95) hx hb dX6_robbed_56 (by decide) (fun c56 => ?_) (fun c56 => ?_)
      · have h := (if_pos c56).symm.trans h
        exact hKx _ (Option.some.inj h).symm _ _ _ hP hD hS (lv_sub hl [] rfl)
      · have h := (if_neg c56).symm.trans h
        refine lv_aload_n hx hb dX6_robbed_59 rfl (lv_at hl 0 rfl) ?_
        refine va_get (D := G) (ci := 6) (v := .ref (aM 26)) (C := RX6) (T := TX6) (N := 29) hx hb hts fi_X6_robbed_X6 hown hEN.1 hP 0 rfl rfl 25 (by decide) (hts (.fieldLink RX6 47 "HourWellModel" "far" "[I") (List.mem_of_getElem? (i := 2) rfl)) (fun _ h9 => h9) rfl dX6_robbed_60 ?_
        refine lv_aload_n hx hb dX6_robbed_63 rfl (lv_at hl 0 rfl) ?_
        refine va_get (D := G) (ci := 6) (v := .ref (aM 23)) (C := RX6) (T := TX6) (N := 29) hx hb hts fi_X6_robbed_X6 hown hEN.1 hP 0 rfl rfl 22 (by decide) (hts (.fieldLink RX6 41 "HourWellModel" "entered" "[I") (List.mem_of_getElem? (i := 3) rfl)) (fun _ h9 => h9) rfl dX6_robbed_64 ?_
        refine lv_iload hx hb dX6_robbed_67 (lv_at hl 1 rfl) ?_
        obtain ⟨hg69, h⟩ := grd_some h
        refine va_iald (f := (vM 23)) hx hb hEN.1 hP 11 0 rfl rfl (inb_in hg69) dX6_robbed_69 ?_
        obtain ⟨hg70, h⟩ := grd_some h
        refine va_iald (f := (vM 26)) hx hb hEN.1 hP 13 0 rfl rfl (inb_in hg70) dX6_robbed_70 ?_
        refine lv_aload_n hx hb dX6_robbed_71 rfl (lv_at hl 0 rfl) ?_
        refine va_get (D := G) (ci := 6) (v := .ref (aM 24)) (C := RX6) (T := TX6) (N := 29) hx hb hts fi_X6_robbed_X6 hown hEN.1 hP 0 rfl rfl 23 (by decide) (hts (.fieldLink RX6 44 "HourWellModel" "when" "[I") (List.mem_of_getElem? (i := 4) rfl)) (fun _ h9 => h9) rfl dX6_robbed_72 ?_
        refine lv_iload hx hb dX6_robbed_75 (lv_at hl 1 rfl) ?_
        obtain ⟨hg77, h⟩ := grd_some h
        refine va_iald (f := (vM 24)) hx hb hEN.1 hP 12 0 rfl rfl (inb_in hg77) dX6_robbed_77 ?_
        refine lv_icmp_gt (tgt := 89) hx hb dX6_robbed_78 (by decide) (fun c78 => ?_) (fun c78 => ?_)
        · have h := (if_pos c78).symm.trans h
          refine lv_iinc (v := (x4 + (1 : Int32))) (lv' := [(4, .int (x4 + (1 : Int32))), (0, .ref (aM 0))]) hx hb dX6_robbed_89 hl (k := 1) rfl (congrArg (fun z => x4 + z) k_iconst_1) (by decide) rfl (fun ls hl => ?_)
          refine lv_goto (tgt := 50) hx hb dX6_robbed_92 (by decide) ?_
          exact hrc vM (x4 + (1 : Int32)) h _ _ _ hP hD hS (lv_sub hl [1, 0] rfl)
        · have h := (if_neg c78).symm.trans h
          refine lv_aload_n hx hb dX6_robbed_81 rfl (lv_at hl 0 rfl) ?_
          refine va_get (D := G) (ci := 6) (v := .ref (aM 23)) (C := RX6) (T := TX6) (N := 29) hx hb hts fi_X6_robbed_X6 hown hEN.1 hP 0 rfl rfl 22 (by decide) (hts (.fieldLink RX6 41 "HourWellModel" "entered" "[I") (List.mem_of_getElem? (i := 3) rfl)) (fun _ h9 => h9) rfl dX6_robbed_82 ?_
          refine lv_iload hx hb dX6_robbed_85 (lv_at hl 1 rfl) ?_
          obtain ⟨hg87, h⟩ := grd_some h
          refine va_iald (f := (vM 23)) hx hb hEN.1 hP 11 0 rfl rfl (inb_in hg87) dX6_robbed_87 ?_
          have hres := hKr _ (Option.some.inj h).symm
          subst hres
          exact hRet 88 _ _ _ hP hD hS dX6_robbed_88
  unfold m_X6_robbed at h
  refine lv_iload_n hx hb dX6_robbed_0 rfl (lv_at hl 1 rfl) ?_
  obtain ⟨o1, ho1, h⟩ := bnd_some h
  refine call_S0 (As := [.int x1]) (rest := []) ⟨hx, hb, hml, hown, hts⟩ (c_X6_isThing l G cI cZ  x1 o1 ho1) (va_cwS 1 hts gX6_robbed_X6_isThing rfl rfl rfl hdS_X6_isThing ⟨Nat.le_of_ble_eq_true rfl, Nat.le_of_ble_eq_true rfl⟩) hEN hA hP hD hS [] rfl (by decide) rfl hl.1 rfl (Nat.le_of_ble_eq_true rfl) dX6_robbed_1 ⟨Nat.le_of_ble_eq_true rfl, Nat.le_of_ble_eq_true rfl⟩ (fun H locs hP hS => ?_)
  refine lv_if_eq (tgt := 15) hx hb dX6_robbed_4 (by decide) (fun c4 => ?_) (fun c4 => ?_)
  · have h := (if_pos c4).symm.trans h
    refine lv_iconst (v := (-1 : Int32)) hx hb dX6_robbed_15 k_iconst_n1 ?_
    have hres := Option.some.inj h
    subst hres
    exact hRet 16 _ _ _ hP hD hS dX6_robbed_16
  · have h := (if_neg c4).symm.trans h
    refine lv_aload_n hx hb dX6_robbed_7 rfl (lv_at hl 0 rfl) ?_
    refine lv_iload_n hx hb dX6_robbed_8 rfl (lv_at hl 2 rfl) ?_
    obtain ⟨o9, ho9, h⟩ := bnd_some h
    refine call_V0 (As := [.int x2]) (rest := []) ⟨hx, hb, hml, hown, hts⟩ (c_X6_isPlace l G cI cZ aM vT vM x2 o9 ho9) (cwV 1 hts gX6_robbed_X6_isPlace rfl rfl rfl hdV_X6_isPlace ⟨Nat.le_of_ble_eq_true rfl, Nat.le_of_ble_eq_true rfl⟩) hEN hA hP hD hS [0, 1] rfl (by decide) 0 rfl rfl rfl hl.1 rfl (Nat.le_of_ble_eq_true rfl) dX6_robbed_9 ⟨Nat.le_of_ble_eq_true rfl, Nat.le_of_ble_eq_true rfl⟩ (fun H locs hP hS => ?_)
    refine lv_if_ne (tgt := 17) hx hb dX6_robbed_12 (by decide) (fun c12 => ?_) (fun c12 => ?_)
    · have h := (if_neg c12).symm.trans h
      refine lv_aload_n hx hb dX6_robbed_17 rfl (lv_at hl 0 rfl) ?_
      obtain ⟨o18, ho18, h⟩ := bnd_some h
      refine call_VJ (wr := []) (As := []) (rest := []) ⟨hx, hb, hml, hown, hts⟩ (c_X6_withAll l G cI cZ aM vT vM o18 ho18) (cwV 0 hts gX6_robbed_X6_withAll rfl rfl rfl hdV_X6_withAll ⟨Nat.le_of_ble_eq_true rfl, Nat.le_of_ble_eq_true rfl⟩) hEN hA hP hD hS [0, 1, 2, 3, 4, 5, 6, 7, 8, 9, 10, 11, 12, 13, 14, 15] [] rfl (by decide) rfl (by decide) (by decide) 0 rfl rfl rfl hl.1 rfl (Nat.le_of_ble_eq_true rfl) dX6_robbed_18 ⟨Nat.le_of_ble_eq_true rfl, Nat.le_of_ble_eq_true rfl⟩ (fun H locs hP hD hS => ?_)
      have hP : va_P G vwCl [oX6 aM o18 vT, ai cI (aM 1) 70 (o18 1), ai cI (aM 2) 70 (o18 2), ai cI (aM 3) 40 (o18 3), ai cI (aM 4) 80 (o18 4), ai cZ (aM 5) 2 (o18 5), ai cI (aM 6) 200 (o18 6), ai cI (aM 8) 12 (o18 8), ai cI (aM 10) 12 (o18 10), ai cI (aM 18) 427 (o18 18), ai cI (aM 21) 100 (o18 21), ai cI (aM 23) 100 (o18 23), ai cI (aM 24) 100 (o18 24), ai cI (aM 26) 7 (o18 26), ai cI (aM 27) 5 (o18 27), ai cI (aM 28) 64 (o18 28)] H := hP
      have hD : va_D A [oX6 aM o18 vT, ai cI (aM 1) 70 (o18 1), ai cI (aM 2) 70 (o18 2), ai cI (aM 3) 40 (o18 3), ai cI (aM 4) 80 (o18 4), ai cZ (aM 5) 2 (o18 5), ai cI (aM 6) 200 (o18 6), ai cI (aM 8) 12 (o18 8), ai cI (aM 10) 12 (o18 10), ai cI (aM 18) 427 (o18 18), ai cI (aM 21) 100 (o18 21), ai cI (aM 23) 100 (o18 23), ai cI (aM 24) 100 (o18 24), ai cI (aM 26) 7 (o18 26), ai cI (aM 27) 5 (o18 27), ai cI (aM 28) 64 (o18 28)] := hD
      refine lv_aload_n hx hb dX6_robbed_21 rfl (lv_at hl 0 rfl) ?_
      refine lv_iload_n hx hb dX6_robbed_22 rfl (lv_at hl 1 rfl) ?_
      obtain ⟨o23, ho23, h⟩ := bnd_some h
      refine call_VJ (wr := []) (As := [.int x1]) (rest := []) ⟨hx, hb, hml, hown, hts⟩ (c_X6_fewest l G cI cZ aM vT o18 x1 o23 ho23) (cwV 1 hts gX6_robbed_X6_fewest rfl rfl rfl hdV_X6_fewest ⟨Nat.le_of_ble_eq_true rfl, Nat.le_of_ble_eq_true rfl⟩) hEN hA hP hD hS [0, 1, 2, 3, 4, 5, 6, 7, 8, 9, 10, 11, 12, 13, 14, 15] [] rfl (by decide) rfl (by decide) (by decide) 0 rfl rfl rfl hl.1 rfl (Nat.le_of_ble_eq_true rfl) dX6_robbed_23 ⟨Nat.le_of_ble_eq_true rfl, Nat.le_of_ble_eq_true rfl⟩ (fun H locs hP hD hS => ?_)
      have hP : va_P G vwCl [oX6 aM o23.2 vT, ai cI (aM 1) 70 (o23.2 1), ai cI (aM 2) 70 (o23.2 2), ai cI (aM 3) 40 (o23.2 3), ai cI (aM 4) 80 (o23.2 4), ai cZ (aM 5) 2 (o23.2 5), ai cI (aM 6) 200 (o23.2 6), ai cI (aM 8) 12 (o23.2 8), ai cI (aM 10) 12 (o23.2 10), ai cI (aM 18) 427 (o23.2 18), ai cI (aM 21) 100 (o23.2 21), ai cI (aM 23) 100 (o23.2 23), ai cI (aM 24) 100 (o23.2 24), ai cI (aM 26) 7 (o23.2 26), ai cI (aM 27) 5 (o23.2 27), ai cI (aM 28) 64 (o23.2 28)] H := hP
      have hD : va_D A [oX6 aM o23.2 vT, ai cI (aM 1) 70 (o23.2 1), ai cI (aM 2) 70 (o23.2 2), ai cI (aM 3) 40 (o23.2 3), ai cI (aM 4) 80 (o23.2 4), ai cZ (aM 5) 2 (o23.2 5), ai cI (aM 6) 200 (o23.2 6), ai cI (aM 8) 12 (o23.2 8), ai cI (aM 10) 12 (o23.2 10), ai cI (aM 18) 427 (o23.2 18), ai cI (aM 21) 100 (o23.2 21), ai cI (aM 23) 100 (o23.2 23), ai cI (aM 24) 100 (o23.2 24), ai cI (aM 26) 7 (o23.2 26), ai cI (aM 27) 5 (o23.2 27), ai cI (aM 28) 64 (o23.2 28)] := hD
      refine lv_istore_n (lv' := [(3, .int o23.1), (0, .ref (aM 0)), (1, .int x1), (2, .int x2)]) hx hb dX6_robbed_26 rfl hl (by decide) rfl (fun ls hl => ?_)
      refine lv_iload_n hx hb dX6_robbed_27 rfl (lv_at hl 0 rfl) ?_
      refine lv_bipush (v := (-9 : Int32)) hx hb dX6_robbed_28 k_bipush_n9 ?_
      refine lv_icmp_ne (tgt := 36) hx hb dX6_robbed_30 (by decide) (fun c30 => ?_) (fun c30 => ?_)
      · have h := (if_neg c30).symm.trans h
        refine lv_aload_n hx hb dX6_robbed_36 rfl (lv_at hl 1 rfl) ?_
        refine lv_iload_n hx hb dX6_robbed_37 rfl (lv_at hl 2 rfl) ?_
        refine lv_iload_n hx hb dX6_robbed_38 rfl (lv_at hl 0 rfl) ?_
        obtain ⟨o39, ho39, h⟩ := bnd_some h
        refine call_VJ (wr := []) (As := [.int x1, .int o23.1]) (rest := []) ⟨hx, hb, hml, hown, hts⟩ (c_X6_layRow l G cI cZ aM vT o23.2 x1 o23.1 o39 ho39) (cwV 2 hts gX6_robbed_X6_layRow rfl rfl rfl hdV_X6_layRow ⟨Nat.le_of_ble_eq_true rfl, Nat.le_of_ble_eq_true rfl⟩) hEN hA hP hD hS [0, 1, 2, 3, 4, 5, 6, 7, 8, 9, 10, 11, 12, 13, 14, 15] [] rfl (by decide) rfl (by decide) (by decide) 0 rfl rfl rfl hl.1 rfl (Nat.le_of_ble_eq_true rfl) dX6_robbed_39 ⟨Nat.le_of_ble_eq_true rfl, Nat.le_of_ble_eq_true rfl⟩ (fun H locs hP hD hS => ?_)
        have hP : va_P G vwCl [oX6 aM o39 vT, ai cI (aM 1) 70 (o39 1), ai cI (aM 2) 70 (o39 2), ai cI (aM 3) 40 (o39 3), ai cI (aM 4) 80 (o39 4), ai cZ (aM 5) 2 (o39 5), ai cI (aM 6) 200 (o39 6), ai cI (aM 8) 12 (o39 8), ai cI (aM 10) 12 (o39 10), ai cI (aM 18) 427 (o39 18), ai cI (aM 21) 100 (o39 21), ai cI (aM 23) 100 (o39 23), ai cI (aM 24) 100 (o39 24), ai cI (aM 26) 7 (o39 26), ai cI (aM 27) 5 (o39 27), ai cI (aM 28) 64 (o39 28)] H := hP
        have hD : va_D A [oX6 aM o39 vT, ai cI (aM 1) 70 (o39 1), ai cI (aM 2) 70 (o39 2), ai cI (aM 3) 40 (o39 3), ai cI (aM 4) 80 (o39 4), ai cZ (aM 5) 2 (o39 5), ai cI (aM 6) 200 (o39 6), ai cI (aM 8) 12 (o39 8), ai cI (aM 10) 12 (o39 10), ai cI (aM 18) 427 (o39 18), ai cI (aM 21) 100 (o39 21), ai cI (aM 23) 100 (o39 23), ai cI (aM 24) 100 (o39 24), ai cI (aM 26) 7 (o39 26), ai cI (aM 27) 5 (o39 27), ai cI (aM 28) 64 (o39 28)] := hD
        refine lv_aload_n hx hb dX6_robbed_42 rfl (lv_at hl 1 rfl) ?_
        refine lv_iload_n hx hb dX6_robbed_43 rfl (lv_at hl 3 rfl) ?_
        obtain ⟨o44, ho44, h⟩ := bnd_some h
        refine call_VJ (wr := []) (As := [.int x2]) (rest := []) ⟨hx, hb, hml, hown, hts⟩ (c_X6_layFar l G cI cZ aM vT o39 x2 o44 ho44) (cwV 1 hts gX6_robbed_X6_layFar rfl rfl rfl hdV_X6_layFar ⟨Nat.le_of_ble_eq_true rfl, Nat.le_of_ble_eq_true rfl⟩) hEN hA hP hD hS [0, 1, 2, 3, 4, 5, 6, 7, 8, 9, 10, 11, 12, 13, 14, 15] [] rfl (by decide) rfl (by decide) (by decide) 0 rfl rfl rfl hl.1 rfl (Nat.le_of_ble_eq_true rfl) dX6_robbed_44 ⟨Nat.le_of_ble_eq_true rfl, Nat.le_of_ble_eq_true rfl⟩ (fun H locs hP hD hS => ?_)
        have hP : va_P G vwCl [oX6 aM o44 vT, ai cI (aM 1) 70 (o44 1), ai cI (aM 2) 70 (o44 2), ai cI (aM 3) 40 (o44 3), ai cI (aM 4) 80 (o44 4), ai cZ (aM 5) 2 (o44 5), ai cI (aM 6) 200 (o44 6), ai cI (aM 8) 12 (o44 8), ai cI (aM 10) 12 (o44 10), ai cI (aM 18) 427 (o44 18), ai cI (aM 21) 100 (o44 21), ai cI (aM 23) 100 (o44 23), ai cI (aM 24) 100 (o44 24), ai cI (aM 26) 7 (o44 26), ai cI (aM 27) 5 (o44 27), ai cI (aM 28) 64 (o44 28)] H := hP
        have hD : va_D A [oX6 aM o44 vT, ai cI (aM 1) 70 (o44 1), ai cI (aM 2) 70 (o44 2), ai cI (aM 3) 40 (o44 3), ai cI (aM 4) 80 (o44 4), ai cZ (aM 5) 2 (o44 5), ai cI (aM 6) 200 (o44 6), ai cI (aM 8) 12 (o44 8), ai cI (aM 10) 12 (o44 10), ai cI (aM 18) 427 (o44 18), ai cI (aM 21) 100 (o44 21), ai cI (aM 23) 100 (o44 23), ai cI (aM 24) 100 (o44 24), ai cI (aM 26) 7 (o44 26), ai cI (aM 27) 5 (o44 27), ai cI (aM 28) 64 (o44 28)] := hD
        refine lv_iconst (v := (0 : Int32)) hx hb dX6_robbed_47 k_iconst_0 ?_
        refine lv_istore (lv' := [(4, .int (0 : Int32)), (3, .int o23.1), (0, .ref (aM 0)), (1, .int x1), (2, .int x2)]) hx hb dX6_robbed_48 hl (by decide) rfl (fun ls hl => ?_)
        obtain ⟨o50_1, ho50_1, h⟩ := bnd_some h
        refine L50 o50_1 (fun r er => ?_) (fun o50_1x er H locs ls hP hD hS hl => ?_) FU o44 (0 : Int32) ho50_1 _ _ _ hP hD hS (lv_sub hl [2, 0] rfl)
        · subst er
          have h := (sm_l _ _ _).symm.trans h
          exact Option.some.inj h
        · subst er
          have h := (sm_r _ _ _).symm.trans h
          refine lv_bipush (v := (-9 : Int32)) hx hb dX6_robbed_95 k_bipush_n9 ?_
          have hres := Option.some.inj h
          subst hres
          exact hRet 97 _ _ _ hP hD hS dX6_robbed_97
      · have h := (if_pos c30).symm.trans h
        refine lv_bipush (v := (-9 : Int32)) hx hb dX6_robbed_33 k_bipush_n9 ?_
        have hres := Option.some.inj h
        subst hres
        exact hRet 35 _ _ _ hP hD hS dX6_robbed_35
    · have h := (if_pos c12).symm.trans h
      refine lv_iconst (v := (-1 : Int32)) hx hb dX6_robbed_15 k_iconst_n1 ?_
      have hres := Option.some.inj h
      subst hres
      exact hRet 16 _ _ _ hP hD hS dX6_robbed_16
abbrev rm_X6_openBy : Room := { frames := 1, cells := 0, slots := 0, locals := 22 }
theorem fi_X6_openBy_X6 : ∀ w ∈ wsX60, w ∈ wsX6_openBy := fun _ h => List.mem_cons_of_mem _ (List.mem_append_right _ h)
theorem hdV_X6_openBy : yX6_openBy.cls = RX6 ∧ yX6_openBy.cls ≠ "java/lang/invoke/MethodHandle" ∧ yX6_openBy.cls ≠ "java/lang/invoke/VarHandle" ∧ (parseMethodDescriptor yX6_openBy.desc).map (fun d => d.parameters.length) = some 2 := by decide +kernel
set_option maxRecDepth 100000 in
set_option maxHeartbeats 4000000 in
theorem c_X6_openBy (l : Launch) (G : va_G) (cI cZ : ClassId) (aM : Nat → Nat) (vT : Int64) (vM : Ob) (x1 : Int32) (x2 : Int32) (res : Int32) (h : m_X6_openBy vM x1 x2 = some res) : Ct l yX6_openBy wsX6_openBy rm_X6_openBy G cI cZ [.ref (aM 0), .int x1, .int x2] [oX6 aM vM vT, ai cI (aM 1) 70 (vM 1)] (some (.int res)) [oX6 aM vM vT, ai cI (aM 1) 70 (vM 1)] := by
  refine Ct.of_i (maxL := 5) (by decide) rfl (Nat.le_of_ble_eq_true rfl) ?_
  intro p e s m below meth c args hx hb hml hown hts A hA hEN hP hD hS Q hRet ls hl
  have hown : s.vm.findClass RX6 = some m.cls := hown
  have hl : lv_has ls 5 [(0, .ref (aM 0)), (1, .int x1), (2, .int x2)] := hl
  have L11 : ∀ (out : Int32), (∀ ex : Int32, out = ex → ∀ (H : Heap) (locs : List Loc) (ls : Array Slot), va_P G vwCl [oX6 aM vM vT, ai cI (aM 1) 70 (vM 1)] H → va_D A [oX6 aM vM vT, ai cI (aM 1) 70 (vM 1)] → va_S A s.heap H locs → lv_has ls 5 [(3, .int ex)] → W p l e rm_X6_openBy s m args below meth c H locs 0 0 Q (F0 m 54 ls [])) → ∀ (n : Nat) (x1 : Int32) (x2 : Int32) (x3 : Int32) (x4 : Int32), m_X6_openBy_L11 vM n x1 x2 x3 x4 = some out → ∀ (H : Heap) (locs : List Loc) (ls : Array Slot), va_P G vwCl [oX6 aM vM vT, ai cI (aM 1) 70 (vM 1)] H → va_D A [oX6 aM vM vT, ai cI (aM 1) 70 (vM 1)] → va_S A s.heap H locs → lv_has ls 5 [(0, .ref (aM 0)), (1, .int x1), (2, .int x2), (3, .int x3), (4, .int x4)] → W p l e rm_X6_openBy s m args below meth c H locs 0 0 Q (F0 m 11 ls []) := by
    intro out hKx
    have j46 : ∀ (rc : Int32 → Int32 → Int32 → Int32 → Option (Int32)), (∀ (x1 : Int32) (x2 : Int32) (x3 : Int32) (x4 : Int32), rc x1 x2 x3 x4 = some out → ∀ (H : Heap) (locs : List Loc) (ls : Array Slot), va_P G vwCl [oX6 aM vM vT, ai cI (aM 1) 70 (vM 1)] H → va_D A [oX6 aM vM vT, ai cI (aM 1) 70 (vM 1)] → va_S A s.heap H locs → lv_has ls 5 [(0, .ref (aM 0)), (1, .int x1), (2, .int x2), (3, .int x3), (4, .int x4)] → W p l e rm_X6_openBy s m args below meth c H locs 0 0 Q (F0 m 11 ls [])) → ∀ (x1 : Int32) (x2 : Int32) (x4 : Int32) (s0 : Int32) (s1 : Int32), m_X6_openBy_j46 vM rc x1 x2 x4 s0 s1 = some out → ∀ (H : Heap) (locs : List Loc) (ls : Array Slot), va_P G vwCl [oX6 aM vM vT, ai cI (aM 1) 70 (vM 1)] H → va_D A [oX6 aM vM vT, ai cI (aM 1) 70 (vM 1)] → va_S A s.heap H locs → lv_has ls 5 [(0, .ref (aM 0)), (1, .int x1), (2, .int x2), (4, .int x4)] → W p l e rm_X6_openBy s m args below meth c H locs 0 0 Q (F0 m 46 ls [.int s1, .int s0]) := by
      intro rc hrc x1 x2 x4 s0 s1 h H locs ls hP hD hS hl
      unfold m_X6_openBy_j46 at h
      refine lv_iadd hx hb dX6_openBy_46 ?_
      refine lv_istore_n (lv' := [(3, .int (s0 + s1)), (0, .ref (aM 0)), (1, .int x1), (2, .int x2), (4, .int x4)]) hx hb dX6_openBy_47 rfl hl (by decide) rfl (fun ls hl => ?_)
      refine lv_iinc (v := (x4 + (1 : Int32))) (lv' := [(4, .int (x4 + (1 : Int32))), (3, .int (s0 + s1)), (0, .ref (aM 0)), (1, .int x1), (2, .int x2)]) hx hb dX6_openBy_48 hl (k := 4) rfl (congrArg (fun z => x4 + z) k_iconst_1) (by decide) rfl (fun ls hl => ?_)
      refine lv_goto (tgt := 11) hx hb dX6_openBy_51 (by decide) ?_
      exact hrc x1 x2 (s0 + s1) (x4 + (1 : Int32)) h _ _ _ hP hD hS (lv_sub hl [2, 3, 4, 1, 0] rfl)
    intro n
    induction n with
    | zero => intro x1 x2 x3 x4 h; exact nomatch (show (none : Option (Int32)) = some out from h)
    | succ n hrc =>
      intro x1 x2 x3 x4 h H locs ls hP hD hS hl
      have h : m_X6_openBy_L11B vM (m_X6_openBy_L11 vM n) x1 x2 x3 x4 = some out := h
      generalize m_X6_openBy_L11 vM n = rc at h hrc
      unfold m_X6_openBy_L11B at h
      refine lv_iload hx hb dX6_openBy_11 (lv_at hl 4 rfl) ?_
      refine lv_aload_n hx hb dX6_openBy_13 rfl (lv_at hl 0 rfl) ?_
      refine va_get (D := G) (ci := 6) (v := .ref (aM 1)) (C := RX6) (T := TX6) (N := 29) hx hb hts fi_X6_openBy_X6 hown hEN.1 hP 0 rfl rfl 0 (by decide) (hts (.fieldLink RX6 7 "HourWellModel" "tale" "[I") (List.mem_of_getElem? (i := 1) rfl)) (fun _ h9 => h9) rfl dX6_openBy_14 ?_
      refine lv_iconst (v := (3 : Int32)) hx hb dX6_openBy_17 k_iconst_3 ?_
      refine va_iald (f := (vM 1)) hx hb hEN.1 hP 1 0 rfl rfl (inb_in (i := (3 : Int32)) (n := 70) rfl) dX6_openBy_18 ?_
      refine lv_icmp_gt (tgt := 54) hx hb dX6_openBy_19 (by decide) (fun c19 => ?_) (fun c19 => ?_)
      · have h := (if_pos c19).symm.trans h
        exact hKx _ (Option.some.inj h).symm _ _ _ hP hD hS (lv_sub hl [3] rfl)
      · have h := (if_neg c19).symm.trans h
        refine lv_iload_n hx hb dX6_openBy_22 rfl (lv_at hl 3 rfl) ?_
        refine lv_aload_n hx hb dX6_openBy_23 rfl (lv_at hl 0 rfl) ?_
        refine lv_iload_n hx hb dX6_openBy_24 rfl (lv_at hl 1 rfl) ?_
        refine lv_iload_n hx hb dX6_openBy_25 rfl (lv_at hl 2 rfl) ?_
        refine lv_iload hx hb dX6_openBy_26 (lv_at hl 4 rfl) ?_
        refine lv_iadd hx hb dX6_openBy_28 ?_
        refine lv_bipush (v := (24 : Int32)) hx hb dX6_openBy_29 k_bipush_24 ?_
        refine lv_iadd hx hb dX6_openBy_31 ?_
        refine lv_bipush (v := (24 : Int32)) hx hb dX6_openBy_32 k_bipush_24 ?_
        refine lv_rem hx hb dX6_openBy_34 (by decide) ?_
        obtain ⟨o35, ho35, h⟩ := bnd_some h
        refine call_V0 (As := [.int x1, .int (rem ((x2 + x4) + (24 : Int32)) (24 : Int32))]) (rest := [.int x3]) ⟨hx, hb, hml, hown, hts⟩ (c_X6_isOpen l G cI cZ aM vT vM x1 (rem ((x2 + x4) + (24 : Int32)) (24 : Int32)) o35 ho35) (cwV 2 hts gX6_openBy_X6_isOpen rfl rfl rfl hdV_X6_isOpen ⟨Nat.le_of_ble_eq_true rfl, Nat.le_of_ble_eq_true rfl⟩) hEN hA hP hD hS [0, 1] rfl (by decide) 0 rfl rfl rfl hl.1 rfl (Nat.le_of_ble_eq_true rfl) dX6_openBy_35 ⟨Nat.le_of_ble_eq_true rfl, Nat.le_of_ble_eq_true rfl⟩ (fun H locs hP hS => ?_)
        refine lv_if_eq (tgt := 45) hx hb dX6_openBy_38 (by decide) (fun c38 => ?_) (fun c38 => ?_)
        · have h := (if_pos c38).symm.trans h
          refine lv_iconst (v := (0 : Int32)) hx hb dX6_openBy_45 k_iconst_0 ?_
          exact j46 rc hrc x1 x2 x4 x3 (0 : Int32) h _ _ _ hP hD hS (lv_sub hl [0, 1, 2, 4] rfl)
        · have h := (if_neg c38).symm.trans h
          refine lv_iconst (v := (1 : Int32)) hx hb dX6_openBy_41 k_iconst_1 ?_
          refine lv_goto (tgt := 46) hx hb dX6_openBy_42 (by decide) ?_
          exact j46 rc hrc x1 x2 x4 x3 (1 : Int32) h _ _ _ hP hD hS (lv_sub hl [0, 1, 2, 4] rfl)
  unfold m_X6_openBy at h
  refine lv_iconst (v := (0 : Int32)) hx hb dX6_openBy_0 k_iconst_0 ?_
  refine lv_istore_n (lv' := [(3, .int (0 : Int32)), (0, .ref (aM 0)), (1, .int x1), (2, .int x2)]) hx hb dX6_openBy_1 rfl hl (by decide) rfl (fun ls hl => ?_)
  refine lv_aload_n hx hb dX6_openBy_2 rfl (lv_at hl 1 rfl) ?_
  refine va_get (D := G) (ci := 6) (v := .ref (aM 1)) (C := RX6) (T := TX6) (N := 29) hx hb hts fi_X6_openBy_X6 hown hEN.1 hP 0 rfl rfl 0 (by decide) (hts (.fieldLink RX6 7 "HourWellModel" "tale" "[I") (List.mem_of_getElem? (i := 1) rfl)) (fun _ h9 => h9) rfl dX6_openBy_3 ?_
  refine lv_iconst (v := (3 : Int32)) hx hb dX6_openBy_6 k_iconst_3 ?_
  refine va_iald (f := (vM 1)) hx hb hEN.1 hP 1 0 rfl rfl (inb_in (i := (3 : Int32)) (n := 70) rfl) dX6_openBy_7 ?_
  refine lv_ineg hx hb dX6_openBy_8 ?_
  refine lv_istore (lv' := [(4, .int (-((vM 1) (Int32.toNatClampNeg (3 : Int32))))), (3, .int (0 : Int32)), (0, .ref (aM 0)), (1, .int x1), (2, .int x2)]) hx hb dX6_openBy_9 hl (by decide) rfl (fun ls hl => ?_)
  obtain ⟨o11_1, ho11_1, h⟩ := bnd_some h
  refine L11 o11_1 (fun o11_1e er H locs ls hP hD hS hl => ?_) FU x1 x2 (0 : Int32) (-((vM 1) (Int32.toNatClampNeg (3 : Int32)))) ho11_1 _ _ _ hP hD hS (lv_sub hl [2, 3, 4, 1, 0] rfl)
  subst er
  refine lv_iload_n hx hb dX6_openBy_54 rfl (lv_at hl 0 rfl) ?_
  have hres := Option.some.inj h
  subst hres
  exact hRet 55 _ _ _ hP hD hS dX6_openBy_55
abbrev rm_X6_sure : Room := { frames := 2, cells := 0, slots := 0, locals := 46 }
theorem fi_X6_sure_X6 : ∀ w ∈ wsX60, w ∈ wsX6_sure := fun _ h => List.mem_cons_of_mem _ (List.mem_append_right _ h)
theorem hdV_X6_sure : yX6_sure.cls = RX6 ∧ yX6_sure.cls ≠ "java/lang/invoke/MethodHandle" ∧ yX6_sure.cls ≠ "java/lang/invoke/VarHandle" ∧ (parseMethodDescriptor yX6_sure.desc).map (fun d => d.parameters.length) = some 2 := by decide +kernel
set_option maxRecDepth 100000 in
set_option maxHeartbeats 4000000 in
theorem c_X6_sure (l : Launch) (G : va_G) (cI cZ : ClassId) (aM : Nat → Nat) (vT : Int64) (vM : Ob) (x1 : Int32) (x2 : Int32) (res : Int32) (h : m_X6_sure vM x1 x2 = some res) : Ct l yX6_sure wsX6_sure rm_X6_sure G cI cZ [.ref (aM 0), .int x1, .int x2] [oX6 aM vM vT, ai cI (aM 1) 70 (vM 1)] (some (.int res)) [oX6 aM vM vT, ai cI (aM 1) 70 (vM 1)] := by
  refine Ct.of_i (maxL := 3) (by decide) rfl (Nat.le_of_ble_eq_true rfl) ?_
  intro p e s m below meth c args hx hb hml hown hts A hA hEN hP hD hS Q hRet ls hl
  have hown : s.vm.findClass RX6 = some m.cls := hown
  have hl : lv_has ls 3 [(0, .ref (aM 0)), (1, .int x1), (2, .int x2)] := hl
  unfold m_X6_sure at h
  refine lv_aload_n hx hb dX6_sure_0 rfl (lv_at hl 0 rfl) ?_
  refine lv_iload_n hx hb dX6_sure_1 rfl (lv_at hl 1 rfl) ?_
  obtain ⟨o2, ho2, h⟩ := bnd_some h
  refine call_V0 (As := [.int x1]) (rest := []) ⟨hx, hb, hml, hown, hts⟩ (c_X6_isPlace l G cI cZ aM vT vM x1 o2 ho2) (cwV 1 hts gX6_sure_X6_isPlace rfl rfl rfl hdV_X6_isPlace ⟨Nat.le_of_ble_eq_true rfl, Nat.le_of_ble_eq_true rfl⟩) hEN hA hP hD hS [0, 1] rfl (by decide) 0 rfl rfl rfl hl.1 rfl (Nat.le_of_ble_eq_true rfl) dX6_sure_2 ⟨Nat.le_of_ble_eq_true rfl, Nat.le_of_ble_eq_true rfl⟩ (fun H locs hP hS => ?_)
  refine lv_if_eq (tgt := 20) hx hb dX6_sure_5 (by decide) (fun c5 => ?_) (fun c5 => ?_)
  · have h := (if_pos c5).symm.trans h
    refine lv_iconst (v := (-1 : Int32)) hx hb dX6_sure_20 k_iconst_n1 ?_
    have hres := Option.some.inj h
    subst hres
    exact hRet 21 _ _ _ hP hD hS dX6_sure_21
  · have h := (if_neg c5).symm.trans h
    refine lv_iload_n hx hb dX6_sure_8 rfl (lv_at hl 2 rfl) ?_
    refine lv_i2l (v := (Int32.toInt64 x2)) hx hb dX6_sure_9 rfl ?_
    refine lv_lconst (v := (0 : Int64)) hx hb dX6_sure_10 (by decide) ?_
    refine lv_ldc2 (v := (23 : Int64)) hx hb hown (hts (.constantLong RX6 256 (23)) (List.mem_of_getElem? (i := 1) rfl)) dX6_sure_11 ?_
    obtain ⟨o14, ho14, h⟩ := bnd_some h
    refine call_S0 (As := [.long (Int32.toInt64 x2), .long (0 : Int64), .long (23 : Int64)]) (rest := []) ⟨hx, hb, hml, hown, hts⟩ (c_X6_in l G cI cZ  (Int32.toInt64 x2) (0 : Int64) (23 : Int64) o14 ho14) (va_cwS 3 hts gX6_sure_X6_in rfl rfl rfl hdS_X6_in ⟨Nat.le_of_ble_eq_true rfl, Nat.le_of_ble_eq_true rfl⟩) hEN hA hP hD hS [] rfl (by decide) rfl hl.1 rfl (Nat.le_of_ble_eq_true rfl) dX6_sure_14 ⟨Nat.le_of_ble_eq_true rfl, Nat.le_of_ble_eq_true rfl⟩ (fun H locs hP hS => ?_)
    refine lv_if_ne (tgt := 22) hx hb dX6_sure_17 (by decide) (fun c17 => ?_) (fun c17 => ?_)
    · have h := (if_neg c17).symm.trans h
      refine lv_aload_n hx hb dX6_sure_22 rfl (lv_at hl 0 rfl) ?_
      refine lv_iload_n hx hb dX6_sure_23 rfl (lv_at hl 1 rfl) ?_
      refine lv_iload_n hx hb dX6_sure_24 rfl (lv_at hl 2 rfl) ?_
      obtain ⟨o25, ho25, h⟩ := bnd_some h
      refine call_V0 (As := [.int x1, .int x2]) (rest := []) ⟨hx, hb, hml, hown, hts⟩ (c_X6_openBy l G cI cZ aM vT vM x1 x2 o25 ho25) (cwV 2 hts gX6_sure_X6_openBy rfl rfl rfl hdV_X6_openBy ⟨Nat.le_of_ble_eq_true rfl, Nat.le_of_ble_eq_true rfl⟩) hEN hA hP hD hS [0, 1] rfl (by decide) 0 rfl rfl rfl hl.1 rfl (Nat.le_of_ble_eq_true rfl) dX6_sure_25 ⟨Nat.le_of_ble_eq_true rfl, Nat.le_of_ble_eq_true rfl⟩ (fun H locs hP hS => ?_)
      refine lv_iconst (v := (2 : Int32)) hx hb dX6_sure_28 k_iconst_2 ?_
      refine lv_aload_n hx hb dX6_sure_29 rfl (lv_at hl 0 rfl) ?_
      refine va_get (D := G) (ci := 6) (v := .ref (aM 1)) (C := RX6) (T := TX6) (N := 29) hx hb hts fi_X6_sure_X6 hown hEN.1 hP 0 rfl rfl 0 (by decide) (hts (.fieldLink RX6 7 "HourWellModel" "tale" "[I") (List.mem_of_getElem? (i := 2) rfl)) (fun _ h9 => h9) rfl dX6_sure_30 ?_
      refine lv_iconst (v := (3 : Int32)) hx hb dX6_sure_33 k_iconst_3 ?_
      refine va_iald (f := (vM 1)) hx hb hEN.1 hP 1 0 rfl rfl (inb_in (i := (3 : Int32)) (n := 70) rfl) dX6_sure_34 ?_
      refine lv_imul hx hb dX6_sure_35 ?_
      refine lv_iconst (v := (1 : Int32)) hx hb dX6_sure_36 k_iconst_1 ?_
      refine lv_iadd hx hb dX6_sure_37 ?_
      refine lv_icmp_ne (tgt := 45) hx hb dX6_sure_38 (by decide) (fun c38 => ?_) (fun c38 => ?_)
      · have h := (if_neg c38).symm.trans h
        refine lv_iconst (v := (0 : Int32)) hx hb dX6_sure_45 k_iconst_0 ?_
        have hres := Option.some.inj h
        subst hres
        exact hRet 46 _ _ _ hP hD hS dX6_sure_46
      · have h := (if_pos c38).symm.trans h
        refine lv_iconst (v := (1 : Int32)) hx hb dX6_sure_41 k_iconst_1 ?_
        refine lv_goto (tgt := 46) hx hb dX6_sure_42 (by decide) ?_
        have hres := Option.some.inj h
        subst hres
        exact hRet 46 _ _ _ hP hD hS dX6_sure_46
    · have h := (if_pos c17).symm.trans h
      refine lv_iconst (v := (-1 : Int32)) hx hb dX6_sure_20 k_iconst_n1 ?_
      have hres := Option.some.inj h
      subst hres
      exact hRet 21 _ _ _ hP hD hS dX6_sure_21
abbrev rm_X6_odds : Room := { frames := 2, cells := 0, slots := 0, locals := 46 }
theorem fi_X6_odds_X6 : ∀ w ∈ wsX60, w ∈ wsX6_odds := fun _ h => List.mem_cons_of_mem _ (List.mem_append_right _ h)
theorem hdV_X6_odds : yX6_odds.cls = RX6 ∧ yX6_odds.cls ≠ "java/lang/invoke/MethodHandle" ∧ yX6_odds.cls ≠ "java/lang/invoke/VarHandle" ∧ (parseMethodDescriptor yX6_odds.desc).map (fun d => d.parameters.length) = some 3 := by decide +kernel
set_option maxRecDepth 100000 in
set_option maxHeartbeats 4000000 in
theorem c_X6_odds (l : Launch) (G : va_G) (cI cZ : ClassId) (aM : Nat → Nat) (vT : Int64) (vM : Ob) (x1 : Int32) (x2 : Int32) (x3 : Int32) (res : Int32) (h : m_X6_odds vM x1 x2 x3 = some res) : Ct l yX6_odds wsX6_odds rm_X6_odds G cI cZ [.ref (aM 0), .int x1, .int x2, .int x3] [oX6 aM vM vT, ai cI (aM 1) 70 (vM 1)] (some (.int res)) [oX6 aM vM vT, ai cI (aM 1) 70 (vM 1)] := by
  refine Ct.of_i (maxL := 9) (by decide) rfl (Nat.le_of_ble_eq_true rfl) ?_
  intro p e s m below meth c args hx hb hml hown hts A hA hEN hP hD hS Q hRet ls hl
  have hown : s.vm.findClass RX6 = some m.cls := hown
  have hl : lv_has ls 9 [(0, .ref (aM 0)), (1, .int x1), (2, .int x2), (3, .int x3)] := hl
  have L57 : ∀ (out : Int32 × Int32 × Int32 × Int32), (∀ ex : Int32 × Int32 × Int32 × Int32, out = ex → ∀ (H : Heap) (locs : List Loc) (ls : Array Slot), va_P G vwCl [oX6 aM vM vT, ai cI (aM 1) 70 (vM 1)] H → va_D A [oX6 aM vM vT, ai cI (aM 1) 70 (vM 1)] → va_S A s.heap H locs → lv_has ls 9 [(3, .int ex.1), (4, .int ex.2.1), (5, .int ex.2.2.1), (6, .int ex.2.2.2)] → W p l e rm_X6_odds s m args below meth c H locs 0 0 Q (F0 m 80 ls [])) → ∀ (n : Nat) (x3 : Int32) (x4 : Int32) (x5 : Int32) (x6 : Int32) (x7 : Int32), m_X6_odds_L57 vM n x3 x4 x5 x6 x7 = some out → ∀ (H : Heap) (locs : List Loc) (ls : Array Slot), va_P G vwCl [oX6 aM vM vT, ai cI (aM 1) 70 (vM 1)] H → va_D A [oX6 aM vM vT, ai cI (aM 1) 70 (vM 1)] → va_S A s.heap H locs → lv_has ls 9 [(3, .int x3), (4, .int x4), (5, .int x5), (6, .int x6), (7, .int x7)] → W p l e rm_X6_odds s m args below meth c H locs 0 0 Q (F0 m 57 ls []) := by
    intro out hKx
    intro n
    induction n with
    | zero => intro x3 x4 x5 x6 x7 h; exact nomatch (show (none : Option (Int32 × Int32 × Int32 × Int32)) = some out from h)
    | succ n hrc =>
      intro x3 x4 x5 x6 x7 h H locs ls hP hD hS hl
      have h : m_X6_odds_L57B vM (m_X6_odds_L57 vM n) x3 x4 x5 x6 x7 = some out := h
      generalize m_X6_odds_L57 vM n = rc at h hrc
      unfold m_X6_odds_L57B at h
      refine lv_iload hx hb dX6_odds_57 (lv_at hl 4 rfl) ?_
      refine lv_if_eq (tgt := 80) hx hb dX6_odds_59 (by decide) (fun c59 => ?_) (fun c59 => ?_)
      · have h := (if_pos c59).symm.trans h
        exact hKx _ (Option.some.inj h).symm _ _ _ hP hD hS (lv_sub hl [0, 1, 2, 3] rfl)
      · have h := (if_neg c59).symm.trans h
        refine lv_iload hx hb dX6_odds_62 (lv_at hl 3 rfl) ?_
        refine lv_iload hx hb dX6_odds_64 (lv_at hl 4 rfl) ?_
        obtain ⟨hg66, h⟩ := grd_some h
        refine lv_rem hx hb dX6_odds_66 (dec_t hg66) ?_
        refine lv_istore (lv' := [(8, .int (rem x6 x7)), (3, .int x3), (4, .int x4), (5, .int x5), (6, .int x6), (7, .int x7)]) hx hb dX6_odds_67 hl (by decide) rfl (fun ls hl => ?_)
        refine lv_iload hx hb dX6_odds_69 (lv_at hl 5 rfl) ?_
        refine lv_istore (lv' := [(6, .int x7), (8, .int (rem x6 x7)), (3, .int x3), (4, .int x4), (5, .int x5), (7, .int x7)]) hx hb dX6_odds_71 hl (by decide) rfl (fun ls hl => ?_)
        refine lv_iload hx hb dX6_odds_73 (lv_at hl 1 rfl) ?_
        refine lv_istore (lv' := [(7, .int (rem x6 x7)), (6, .int x7), (8, .int (rem x6 x7)), (3, .int x3), (4, .int x4), (5, .int x5)]) hx hb dX6_odds_75 hl (by decide) rfl (fun ls hl => ?_)
        refine lv_goto (tgt := 57) hx hb dX6_odds_77 (by decide) ?_
        exact hrc x3 x4 x5 x7 (rem x6 x7) h _ _ _ hP hD hS (lv_sub hl [3, 4, 5, 1, 0] rfl)
  unfold m_X6_odds at h
  refine lv_aload_n hx hb dX6_odds_0 rfl (lv_at hl 0 rfl) ?_
  refine lv_iload_n hx hb dX6_odds_1 rfl (lv_at hl 1 rfl) ?_
  obtain ⟨o2, ho2, h⟩ := bnd_some h
  refine call_V0 (As := [.int x1]) (rest := []) ⟨hx, hb, hml, hown, hts⟩ (c_X6_isPlace l G cI cZ aM vT vM x1 o2 ho2) (cwV 1 hts gX6_odds_X6_isPlace rfl rfl rfl hdV_X6_isPlace ⟨Nat.le_of_ble_eq_true rfl, Nat.le_of_ble_eq_true rfl⟩) hEN hA hP hD hS [0, 1] rfl (by decide) 0 rfl rfl rfl hl.1 rfl (Nat.le_of_ble_eq_true rfl) dX6_odds_2 ⟨Nat.le_of_ble_eq_true rfl, Nat.le_of_ble_eq_true rfl⟩ (fun H locs hP hS => ?_)
  refine lv_if_eq (tgt := 27) hx hb dX6_odds_5 (by decide) (fun c5 => ?_) (fun c5 => ?_)
  · have h := (if_pos c5).symm.trans h
    refine lv_iconst (v := (-1 : Int32)) hx hb dX6_odds_27 k_iconst_n1 ?_
    have hres := Option.some.inj h
    subst hres
    exact hRet 28 _ _ _ hP hD hS dX6_odds_28
  · have h := (if_neg c5).symm.trans h
    refine lv_iload_n hx hb dX6_odds_8 rfl (lv_at hl 2 rfl) ?_
    refine lv_i2l (v := (Int32.toInt64 x2)) hx hb dX6_odds_9 rfl ?_
    refine lv_lconst (v := (0 : Int64)) hx hb dX6_odds_10 (by decide) ?_
    refine lv_ldc2 (v := (23 : Int64)) hx hb hown (hts (.constantLong RX6 256 (23)) (List.mem_of_getElem? (i := 1) rfl)) dX6_odds_11 ?_
    obtain ⟨o14, ho14, h⟩ := bnd_some h
    refine call_S0 (As := [.long (Int32.toInt64 x2), .long (0 : Int64), .long (23 : Int64)]) (rest := []) ⟨hx, hb, hml, hown, hts⟩ (c_X6_in l G cI cZ  (Int32.toInt64 x2) (0 : Int64) (23 : Int64) o14 ho14) (va_cwS 3 hts gX6_odds_X6_in rfl rfl rfl hdS_X6_in ⟨Nat.le_of_ble_eq_true rfl, Nat.le_of_ble_eq_true rfl⟩) hEN hA hP hD hS [] rfl (by decide) rfl hl.1 rfl (Nat.le_of_ble_eq_true rfl) dX6_odds_14 ⟨Nat.le_of_ble_eq_true rfl, Nat.le_of_ble_eq_true rfl⟩ (fun H locs hP hS => ?_)
    refine lv_if_eq (tgt := 27) hx hb dX6_odds_17 (by decide) (fun c17 => ?_) (fun c17 => ?_)
    · have h := (if_pos c17).symm.trans h
      refine lv_iconst (v := (-1 : Int32)) hx hb dX6_odds_27 k_iconst_n1 ?_
      have hres := Option.some.inj h
      subst hres
      exact hRet 28 _ _ _ hP hD hS dX6_odds_28
    · have h := (if_neg c17).symm.trans h
      refine lv_iload_n hx hb dX6_odds_20 rfl (lv_at hl 3 rfl) ?_
      obtain ⟨o21, ho21, h⟩ := bnd_some h
      refine call_S0 (As := [.int x3]) (rest := []) ⟨hx, hb, hml, hown, hts⟩ (c_X6_isTwo l G cI cZ  x3 o21 ho21) (va_cwS 1 hts gX6_odds_X6_isTwo rfl rfl rfl hdS_X6_isTwo ⟨Nat.le_of_ble_eq_true rfl, Nat.le_of_ble_eq_true rfl⟩) hEN hA hP hD hS [] rfl (by decide) rfl hl.1 rfl (Nat.le_of_ble_eq_true rfl) dX6_odds_21 ⟨Nat.le_of_ble_eq_true rfl, Nat.le_of_ble_eq_true rfl⟩ (fun H locs hP hS => ?_)
      refine lv_if_ne (tgt := 29) hx hb dX6_odds_24 (by decide) (fun c24 => ?_) (fun c24 => ?_)
      · have h := (if_neg c24).symm.trans h
        refine lv_aload_n hx hb dX6_odds_29 rfl (lv_at hl 0 rfl) ?_
        refine lv_iload_n hx hb dX6_odds_30 rfl (lv_at hl 1 rfl) ?_
        refine lv_iload_n hx hb dX6_odds_31 rfl (lv_at hl 2 rfl) ?_
        obtain ⟨o32, ho32, h⟩ := bnd_some h
        refine call_V0 (As := [.int x1, .int x2]) (rest := []) ⟨hx, hb, hml, hown, hts⟩ (c_X6_openBy l G cI cZ aM vT vM x1 x2 o32 ho32) (cwV 2 hts gX6_odds_X6_openBy rfl rfl rfl hdV_X6_openBy ⟨Nat.le_of_ble_eq_true rfl, Nat.le_of_ble_eq_true rfl⟩) hEN hA hP hD hS [0, 1] rfl (by decide) 0 rfl rfl rfl hl.1 rfl (Nat.le_of_ble_eq_true rfl) dX6_odds_32 ⟨Nat.le_of_ble_eq_true rfl, Nat.le_of_ble_eq_true rfl⟩ (fun H locs hP hS => ?_)
        refine lv_istore (lv' := [(4, .int o32), (0, .ref (aM 0)), (1, .int x1), (2, .int x2), (3, .int x3)]) hx hb dX6_odds_35 hl (by decide) rfl (fun ls hl => ?_)
        refine lv_iconst (v := (2 : Int32)) hx hb dX6_odds_37 k_iconst_2 ?_
        refine lv_aload_n hx hb dX6_odds_38 rfl (lv_at hl 1 rfl) ?_
        refine va_get (D := G) (ci := 6) (v := .ref (aM 1)) (C := RX6) (T := TX6) (N := 29) hx hb hts fi_X6_odds_X6 hown hEN.1 hP 0 rfl rfl 0 (by decide) (hts (.fieldLink RX6 7 "HourWellModel" "tale" "[I") (List.mem_of_getElem? (i := 2) rfl)) (fun _ h9 => h9) rfl dX6_odds_39 ?_
        refine lv_iconst (v := (3 : Int32)) hx hb dX6_odds_42 k_iconst_3 ?_
        refine va_iald (f := (vM 1)) hx hb hEN.1 hP 1 0 rfl rfl (inb_in (i := (3 : Int32)) (n := 70) rfl) dX6_odds_43 ?_
        refine lv_imul hx hb dX6_odds_44 ?_
        refine lv_iconst (v := (1 : Int32)) hx hb dX6_odds_45 k_iconst_1 ?_
        refine lv_iadd hx hb dX6_odds_46 ?_
        refine lv_istore (lv' := [(5, .int (((2 : Int32) * ((vM 1) (Int32.toNatClampNeg (3 : Int32)))) + (1 : Int32))), (4, .int o32), (0, .ref (aM 0)), (1, .int x1), (2, .int x2), (3, .int x3)]) hx hb dX6_odds_47 hl (by decide) rfl (fun ls hl => ?_)
        refine lv_iload hx hb dX6_odds_49 (lv_at hl 1 rfl) ?_
        refine lv_istore (lv' := [(6, .int o32), (5, .int (((2 : Int32) * ((vM 1) (Int32.toNatClampNeg (3 : Int32)))) + (1 : Int32))), (4, .int o32), (0, .ref (aM 0)), (1, .int x1), (2, .int x2), (3, .int x3)]) hx hb dX6_odds_51 hl (by decide) rfl (fun ls hl => ?_)
        refine lv_iload hx hb dX6_odds_53 (lv_at hl 1 rfl) ?_
        refine lv_istore (lv' := [(7, .int (((2 : Int32) * ((vM 1) (Int32.toNatClampNeg (3 : Int32)))) + (1 : Int32))), (6, .int o32), (5, .int (((2 : Int32) * ((vM 1) (Int32.toNatClampNeg (3 : Int32)))) + (1 : Int32))), (4, .int o32), (0, .ref (aM 0)), (1, .int x1), (2, .int x2), (3, .int x3)]) hx hb dX6_odds_55 hl (by decide) rfl (fun ls hl => ?_)
        obtain ⟨o57_1, ho57_1, h⟩ := bnd_some h
        refine L57 o57_1 (fun o57_1e er H locs ls hP hD hS hl => ?_) FU x3 o32 (((2 : Int32) * ((vM 1) (Int32.toNatClampNeg (3 : Int32)))) + (1 : Int32)) o32 (((2 : Int32) * ((vM 1) (Int32.toNatClampNeg (3 : Int32)))) + (1 : Int32)) ho57_1 _ _ _ hP hD hS (lv_sub hl [7, 3, 2, 1, 0] rfl)
        subst er
        refine lv_iload_n hx hb dX6_odds_80 rfl (lv_at hl 0 rfl) ?_
        refine lv_if_ne (tgt := 92) hx hb dX6_odds_81 (by decide) (fun c81 => ?_) (fun c81 => ?_)
        · have h := (if_neg c81).symm.trans h
          refine lv_iload hx hb dX6_odds_92 (lv_at hl 2 rfl) ?_
          refine lv_iload hx hb dX6_odds_94 (lv_at hl 3 rfl) ?_
          obtain ⟨hg96, h⟩ := grd_some h
          refine lv_idiv hx hb dX6_odds_96 (dec_t hg96) ?_
          have hres := Option.some.inj h
          subst hres
          exact hRet 97 _ _ _ hP hD hS dX6_odds_97
        · have h := (if_pos c81).symm.trans h
          refine lv_iload hx hb dX6_odds_84 (lv_at hl 1 rfl) ?_
          refine lv_iload hx hb dX6_odds_86 (lv_at hl 3 rfl) ?_
          obtain ⟨hg88, h⟩ := grd_some h
          refine lv_idiv hx hb dX6_odds_88 (dec_t hg88) ?_
          refine lv_goto (tgt := 97) hx hb dX6_odds_89 (by decide) ?_
          have hres := Option.some.inj h
          subst hres
          exact hRet 97 _ _ _ hP hD hS dX6_odds_97
      · have h := (if_pos c24).symm.trans h
        refine lv_iconst (v := (-1 : Int32)) hx hb dX6_odds_27 k_iconst_n1 ?_
        have hres := Option.some.inj h
        subst hres
        exact hRet 28 _ _ _ hP hD hS dX6_odds_28
abbrev rm_X6_isSeat : Room := { frames := 1, cells := 0, slots := 0, locals := 25 }
theorem hdS_X6_isSeat : yX6_isSeat.cls ≠ "java/lang/invoke/MethodHandle" ∧ yX6_isSeat.cls ≠ "java/lang/invoke/VarHandle" ∧ (parseMethodDescriptor yX6_isSeat.desc).map (fun d => d.parameters.length) = some 1 := by decide +kernel
set_option maxRecDepth 100000 in
set_option maxHeartbeats 4000000 in
theorem c_X6_isSeat (l : Launch) (G : va_G) (cI cZ : ClassId)   (x0 : Int32) (res : Int32) (h : m_X6_isSeat  x0 = some res) : Ct l yX6_isSeat wsX6_isSeat rm_X6_isSeat G cI cZ [.int x0] [] (some (.int res)) [] := by
  refine Ct.of_z (maxL := 1) (by decide) rfl (Nat.le_of_ble_eq_true rfl) ?_
  intro p e s m below meth c args hx hb hml hown hts A hA hEN hP hD hS Q hRet ls hl
  have hown : s.vm.findClass RX6 = some m.cls := hown
  have hl : lv_has ls 1 [(0, .int x0)] := hl
  unfold m_X6_isSeat at h
  refine lv_iload_n hx hb dX6_isSeat_0 rfl (lv_at hl 0 rfl) ?_
  refine lv_i2l (v := (Int32.toInt64 x0)) hx hb dX6_isSeat_1 rfl ?_
  refine lv_lconst (v := (0 : Int64)) hx hb dX6_isSeat_2 (by decide) ?_
  refine lv_ldc2 (v := (4 : Int64)) hx hb hown (hts (.constantLong RX6 151 (4)) (List.mem_of_getElem? (i := 1) rfl)) dX6_isSeat_3 ?_
  obtain ⟨o6, ho6, h⟩ := bnd_some h
  refine call_S0 (As := [.long (Int32.toInt64 x0), .long (0 : Int64), .long (4 : Int64)]) (rest := []) ⟨hx, hb, hml, hown, hts⟩ (c_X6_in l G cI cZ  (Int32.toInt64 x0) (0 : Int64) (4 : Int64) o6 ho6) (va_cwS 3 hts gX6_isSeat_X6_in rfl rfl rfl hdS_X6_in ⟨Nat.le_of_ble_eq_true rfl, Nat.le_of_ble_eq_true rfl⟩) hEN hA hP hD hS [] rfl (by decide) rfl hl.1 rfl (Nat.le_of_ble_eq_true rfl) dX6_isSeat_6 ⟨Nat.le_of_ble_eq_true rfl, Nat.le_of_ble_eq_true rfl⟩ (fun H locs hP hS => ?_)
  obtain ⟨hg9, h⟩ := grd_some h
  have hres := Option.some.inj h
  subst hres
  exact hRet 9 (bz_n hg9) _ _ _ hP hD hS dX6_isSeat_9
abbrev rm_X6_swaps : Room := { frames := 2, cells := 0, slots := 0, locals := 45 }
theorem fi_X6_swaps_X6 : ∀ w ∈ wsX60, w ∈ wsX6_swaps := fun _ h => List.mem_cons_of_mem _ (List.mem_append_right _ h)
theorem hdV_X6_swaps : yX6_swaps.cls = RX6 ∧ yX6_swaps.cls ≠ "java/lang/invoke/MethodHandle" ∧ yX6_swaps.cls ≠ "java/lang/invoke/VarHandle" ∧ (parseMethodDescriptor yX6_swaps.desc).map (fun d => d.parameters.length) = some 2 := by decide +kernel
set_option maxRecDepth 100000 in
set_option maxHeartbeats 4000000 in
theorem c_X6_swaps (l : Launch) (G : va_G) (cI cZ : ClassId) (aM : Nat → Nat) (vT : Int64) (vM : Ob) (x1 : Int32) (x2 : Int32) (res : Int32 × Ob) (h : m_X6_swaps vM x1 x2 = some res) : Ct l yX6_swaps wsX6_swaps rm_X6_swaps G cI cZ [.ref (aM 0), .int x1, .int x2] [oX6 aM vM vT, ai cI (aM 1) 70 (vM 1), ai cI (aM 2) 70 (vM 2), ai cI (aM 3) 40 (vM 3), ai cI (aM 4) 80 (vM 4), ai cZ (aM 5) 2 (vM 5), ai cI (aM 6) 200 (vM 6), ai cI (aM 8) 12 (vM 8), ai cI (aM 10) 12 (vM 10), ai cI (aM 18) 427 (vM 18), ai cI (aM 21) 100 (vM 21), ai cI (aM 23) 100 (vM 23), ai cI (aM 24) 100 (vM 24), ai cI (aM 26) 7 (vM 26), ai cI (aM 27) 5 (vM 27), ai cI (aM 28) 64 (vM 28)] (some (.int res.1)) [oX6 aM res.2 vT, ai cI (aM 1) 70 (res.2 1), ai cI (aM 2) 70 (res.2 2), ai cI (aM 3) 40 (res.2 3), ai cI (aM 4) 80 (res.2 4), ai cZ (aM 5) 2 (res.2 5), ai cI (aM 6) 200 (res.2 6), ai cI (aM 8) 12 (res.2 8), ai cI (aM 10) 12 (res.2 10), ai cI (aM 18) 427 (res.2 18), ai cI (aM 21) 100 (res.2 21), ai cI (aM 23) 100 (res.2 23), ai cI (aM 24) 100 (res.2 24), ai cI (aM 26) 7 (res.2 26), ai cI (aM 27) 5 (res.2 27), ai cI (aM 28) 64 (res.2 28)] := by
  refine Ct.of_i (maxL := 3) (by decide) rfl (Nat.le_of_ble_eq_true rfl) ?_
  intro p e s m below meth c args hx hb hml hown hts A hA hEN hP hD hS Q hRet ls hl
  have hown : s.vm.findClass RX6 = some m.cls := hown
  have hl : lv_has ls 3 [(0, .ref (aM 0)), (1, .int x1), (2, .int x2)] := hl
  unfold m_X6_swaps at h
  refine lv_iload_n hx hb dX6_swaps_0 rfl (lv_at hl 1 rfl) ?_
  obtain ⟨o1, ho1, h⟩ := bnd_some h
  refine call_S0 (As := [.int x1]) (rest := []) ⟨hx, hb, hml, hown, hts⟩ (c_X6_isSeat l G cI cZ  x1 o1 ho1) (va_cwS 1 hts gX6_swaps_X6_isSeat rfl rfl rfl hdS_X6_isSeat ⟨Nat.le_of_ble_eq_true rfl, Nat.le_of_ble_eq_true rfl⟩) hEN hA hP hD hS [] rfl (by decide) rfl hl.1 rfl (Nat.le_of_ble_eq_true rfl) dX6_swaps_1 ⟨Nat.le_of_ble_eq_true rfl, Nat.le_of_ble_eq_true rfl⟩ (fun H locs hP hS => ?_)
  refine lv_if_eq (tgt := 19) hx hb dX6_swaps_4 (by decide) (fun c4 => ?_) (fun c4 => ?_)
  · have h := (if_pos c4).symm.trans h
    refine lv_iconst (v := (-1 : Int32)) hx hb dX6_swaps_19 k_iconst_n1 ?_
    have hres := Option.some.inj h
    subst hres
    exact hRet 20 _ _ _ hP hD hS dX6_swaps_20
  · have h := (if_neg c4).symm.trans h
    refine lv_iload_n hx hb dX6_swaps_7 rfl (lv_at hl 2 rfl) ?_
    obtain ⟨o8, ho8, h⟩ := bnd_some h
    refine call_S0 (As := [.int x2]) (rest := []) ⟨hx, hb, hml, hown, hts⟩ (c_X6_isSeat l G cI cZ  x2 o8 ho8) (va_cwS 1 hts gX6_swaps_X6_isSeat rfl rfl rfl hdS_X6_isSeat ⟨Nat.le_of_ble_eq_true rfl, Nat.le_of_ble_eq_true rfl⟩) hEN hA hP hD hS [] rfl (by decide) rfl hl.1 rfl (Nat.le_of_ble_eq_true rfl) dX6_swaps_8 ⟨Nat.le_of_ble_eq_true rfl, Nat.le_of_ble_eq_true rfl⟩ (fun H locs hP hS => ?_)
    refine lv_if_eq (tgt := 19) hx hb dX6_swaps_11 (by decide) (fun c11 => ?_) (fun c11 => ?_)
    · have h := (if_pos c11).symm.trans h
      refine lv_iconst (v := (-1 : Int32)) hx hb dX6_swaps_19 k_iconst_n1 ?_
      have hres := Option.some.inj h
      subst hres
      exact hRet 20 _ _ _ hP hD hS dX6_swaps_20
    · have h := (if_neg c11).symm.trans h
      refine lv_iload_n hx hb dX6_swaps_14 rfl (lv_at hl 1 rfl) ?_
      refine lv_iload_n hx hb dX6_swaps_15 rfl (lv_at hl 2 rfl) ?_
      refine lv_icmp_ne (tgt := 21) hx hb dX6_swaps_16 (by decide) (fun c16 => ?_) (fun c16 => ?_)
      · have h := (if_neg c16).symm.trans h
        refine lv_aload_n hx hb dX6_swaps_21 rfl (lv_at hl 0 rfl) ?_
        refine va_get (D := G) (ci := 6) (v := .int (vM 0 8)) (C := RX6) (T := TX6) (N := 29) hx hb hts fi_X6_swaps_X6 hown hEN.1 hP 0 rfl rfl 8 (by decide) (hts (.fieldLink RX6 145 "HourWellModel" "swapMany" "I") (List.mem_of_getElem? (i := 1) rfl)) (fun _ h9 => h9) rfl dX6_swaps_22 ?_
        refine lv_bipush (v := (6 : Int32)) hx hb dX6_swaps_25 k_bipush_6 ?_
        refine lv_icmp_ne (tgt := 33) hx hb dX6_swaps_27 (by decide) (fun c27 => ?_) (fun c27 => ?_)
        · have h := (if_neg c27).symm.trans h
          refine lv_aload_n hx hb dX6_swaps_33 rfl (lv_at hl 0 rfl) ?_
          refine va_get (D := G) (ci := 6) (v := .ref (aM 8)) (C := RX6) (T := TX6) (N := 29) hx hb hts fi_X6_swaps_X6 hown hEN.1 hP 0 rfl rfl 7 (by decide) (hts (.fieldLink RX6 29 "HourWellModel" "swapped" "[I") (List.mem_of_getElem? (i := 2) rfl)) (fun _ h9 => h9) rfl dX6_swaps_34 ?_
          refine lv_iconst (v := (2 : Int32)) hx hb dX6_swaps_37 k_iconst_2 ?_
          refine lv_aload_n hx hb dX6_swaps_38 rfl (lv_at hl 0 rfl) ?_
          refine va_get (D := G) (ci := 6) (v := .int (vM 0 8)) (C := RX6) (T := TX6) (N := 29) hx hb hts fi_X6_swaps_X6 hown hEN.1 hP 0 rfl rfl 8 (by decide) (hts (.fieldLink RX6 145 "HourWellModel" "swapMany" "I") (List.mem_of_getElem? (i := 1) rfl)) (fun _ h9 => h9) rfl dX6_swaps_39 ?_
          refine lv_imul hx hb dX6_swaps_42 ?_
          refine lv_iload_n hx hb dX6_swaps_43 rfl (lv_at hl 1 rfl) ?_
          obtain ⟨hg44, h⟩ := grd_some h
          refine va_iast (f := (vM 8)) hx hb hEN.1 hP hD hS 7 0 rfl rfl (inb_in hg44) dX6_swaps_44 (fun H locs hP hD hS => ?_)
          have hP : va_P G vwCl [oX6 aM vM vT, ai cI (aM 1) 70 (vM 1), ai cI (aM 2) 70 (vM 2), ai cI (aM 3) 40 (vM 3), ai cI (aM 4) 80 (vM 4), ai cZ (aM 5) 2 (vM 5), ai cI (aM 6) 200 (vM 6), ai cI (aM 8) 12 (upd (vM 8) (Int32.toNatClampNeg ((2 : Int32) * (vM 0 8))) x1), ai cI (aM 10) 12 (vM 10), ai cI (aM 18) 427 (vM 18), ai cI (aM 21) 100 (vM 21), ai cI (aM 23) 100 (vM 23), ai cI (aM 24) 100 (vM 24), ai cI (aM 26) 7 (vM 26), ai cI (aM 27) 5 (vM 27), ai cI (aM 28) 64 (vM 28)] H := hP
          have hD : va_D A [oX6 aM vM vT, ai cI (aM 1) 70 (vM 1), ai cI (aM 2) 70 (vM 2), ai cI (aM 3) 40 (vM 3), ai cI (aM 4) 80 (vM 4), ai cZ (aM 5) 2 (vM 5), ai cI (aM 6) 200 (vM 6), ai cI (aM 8) 12 (upd (vM 8) (Int32.toNatClampNeg ((2 : Int32) * (vM 0 8))) x1), ai cI (aM 10) 12 (vM 10), ai cI (aM 18) 427 (vM 18), ai cI (aM 21) 100 (vM 21), ai cI (aM 23) 100 (vM 23), ai cI (aM 24) 100 (vM 24), ai cI (aM 26) 7 (vM 26), ai cI (aM 27) 5 (vM 27), ai cI (aM 28) 64 (vM 28)] := hD
          refine lv_aload_n hx hb dX6_swaps_45 rfl (lv_at hl 0 rfl) ?_
          refine va_get (D := G) (ci := 6) (v := .ref (aM 8)) (C := RX6) (T := TX6) (N := 29) hx hb hts fi_X6_swaps_X6 hown hEN.1 hP 0 rfl rfl 7 (by decide) (hts (.fieldLink RX6 29 "HourWellModel" "swapped" "[I") (List.mem_of_getElem? (i := 2) rfl)) (fun _ h9 => h9) rfl dX6_swaps_46 ?_
          refine lv_iconst (v := (2 : Int32)) hx hb dX6_swaps_49 k_iconst_2 ?_
          refine lv_aload_n hx hb dX6_swaps_50 rfl (lv_at hl 0 rfl) ?_
          refine va_get (D := G) (ci := 6) (v := .int (vM 0 8)) (C := RX6) (T := TX6) (N := 29) hx hb hts fi_X6_swaps_X6 hown hEN.1 hP 0 rfl rfl 8 (by decide) (hts (.fieldLink RX6 145 "HourWellModel" "swapMany" "I") (List.mem_of_getElem? (i := 1) rfl)) (fun _ h9 => h9) rfl dX6_swaps_51 ?_
          refine lv_imul hx hb dX6_swaps_54 ?_
          refine lv_iconst (v := (1 : Int32)) hx hb dX6_swaps_55 k_iconst_1 ?_
          refine lv_iadd hx hb dX6_swaps_56 ?_
          refine lv_iload_n hx hb dX6_swaps_57 rfl (lv_at hl 2 rfl) ?_
          obtain ⟨hg58, h⟩ := grd_some h
          refine va_iast (f := (upd (vM 8) (Int32.toNatClampNeg ((2 : Int32) * (vM 0 8))) x1)) hx hb hEN.1 hP hD hS 7 0 rfl rfl (inb_in hg58) dX6_swaps_58 (fun H locs hP hD hS => ?_)
          have hP : va_P G vwCl [oX6 aM vM vT, ai cI (aM 1) 70 (vM 1), ai cI (aM 2) 70 (vM 2), ai cI (aM 3) 40 (vM 3), ai cI (aM 4) 80 (vM 4), ai cZ (aM 5) 2 (vM 5), ai cI (aM 6) 200 (vM 6), ai cI (aM 8) 12 (upd (upd (vM 8) (Int32.toNatClampNeg ((2 : Int32) * (vM 0 8))) x1) (Int32.toNatClampNeg (((2 : Int32) * (vM 0 8)) + (1 : Int32))) x2), ai cI (aM 10) 12 (vM 10), ai cI (aM 18) 427 (vM 18), ai cI (aM 21) 100 (vM 21), ai cI (aM 23) 100 (vM 23), ai cI (aM 24) 100 (vM 24), ai cI (aM 26) 7 (vM 26), ai cI (aM 27) 5 (vM 27), ai cI (aM 28) 64 (vM 28)] H := hP
          have hD : va_D A [oX6 aM vM vT, ai cI (aM 1) 70 (vM 1), ai cI (aM 2) 70 (vM 2), ai cI (aM 3) 40 (vM 3), ai cI (aM 4) 80 (vM 4), ai cZ (aM 5) 2 (vM 5), ai cI (aM 6) 200 (vM 6), ai cI (aM 8) 12 (upd (upd (vM 8) (Int32.toNatClampNeg ((2 : Int32) * (vM 0 8))) x1) (Int32.toNatClampNeg (((2 : Int32) * (vM 0 8)) + (1 : Int32))) x2), ai cI (aM 10) 12 (vM 10), ai cI (aM 18) 427 (vM 18), ai cI (aM 21) 100 (vM 21), ai cI (aM 23) 100 (vM 23), ai cI (aM 24) 100 (vM 24), ai cI (aM 26) 7 (vM 26), ai cI (aM 27) 5 (vM 27), ai cI (aM 28) 64 (vM 28)] := hD
          refine lv_aload_n hx hb dX6_swaps_59 rfl (lv_at hl 0 rfl) ?_
          refine lv_dup hx hb dX6_swaps_60 rfl ?_
          refine va_get (D := G) (ci := 6) (v := .int (vM 0 8)) (C := RX6) (T := TX6) (N := 29) hx hb hts fi_X6_swaps_X6 hown hEN.1 hP 0 rfl rfl 8 (by decide) (hts (.fieldLink RX6 145 "HourWellModel" "swapMany" "I") (List.mem_of_getElem? (i := 1) rfl)) (fun _ h9 => h9) rfl dX6_swaps_61 ?_
          refine lv_iconst (v := (1 : Int32)) hx hb dX6_swaps_64 k_iconst_1 ?_
          refine lv_iadd hx hb dX6_swaps_65 ?_
          refine va_put (D := G) (ci := 6) (v := .int ((vM 0 8) + (1 : Int32))) (ty := .int) (C := RX6) (T := TX6) (N := 29) hx hb hts fi_X6_swaps_X6 tyX6 tyX6_ok nmX6 hown hEN.1 hP hD hS 0 rfl rfl 8 (by decide) (hts (.fieldLink RX6 145 "HourWellModel" "swapMany" "I") (List.mem_of_getElem? (i := 1) rfl)) (fun _ h9 => h9) rfl (by decide +kernel) rfl rfl (Nat.le_of_ble_eq_true rfl) dX6_swaps_66 (fun H locs hP hD hS => ?_)
          have hP : va_P G vwCl [oX6 aM (st vM 0 8 ((vM 0 8) + (1 : Int32))) vT, ai cI (aM 1) 70 (vM 1), ai cI (aM 2) 70 (vM 2), ai cI (aM 3) 40 (vM 3), ai cI (aM 4) 80 (vM 4), ai cZ (aM 5) 2 (vM 5), ai cI (aM 6) 200 (vM 6), ai cI (aM 8) 12 (upd (upd (vM 8) (Int32.toNatClampNeg ((2 : Int32) * (vM 0 8))) x1) (Int32.toNatClampNeg (((2 : Int32) * (vM 0 8)) + (1 : Int32))) x2), ai cI (aM 10) 12 (vM 10), ai cI (aM 18) 427 (vM 18), ai cI (aM 21) 100 (vM 21), ai cI (aM 23) 100 (vM 23), ai cI (aM 24) 100 (vM 24), ai cI (aM 26) 7 (vM 26), ai cI (aM 27) 5 (vM 27), ai cI (aM 28) 64 (vM 28)] H := hP
          have hD : va_D A [oX6 aM (st vM 0 8 ((vM 0 8) + (1 : Int32))) vT, ai cI (aM 1) 70 (vM 1), ai cI (aM 2) 70 (vM 2), ai cI (aM 3) 40 (vM 3), ai cI (aM 4) 80 (vM 4), ai cZ (aM 5) 2 (vM 5), ai cI (aM 6) 200 (vM 6), ai cI (aM 8) 12 (upd (upd (vM 8) (Int32.toNatClampNeg ((2 : Int32) * (vM 0 8))) x1) (Int32.toNatClampNeg (((2 : Int32) * (vM 0 8)) + (1 : Int32))) x2), ai cI (aM 10) 12 (vM 10), ai cI (aM 18) 427 (vM 18), ai cI (aM 21) 100 (vM 21), ai cI (aM 23) 100 (vM 23), ai cI (aM 24) 100 (vM 24), ai cI (aM 26) 7 (vM 26), ai cI (aM 27) 5 (vM 27), ai cI (aM 28) 64 (vM 28)] := hD
          refine lv_aload_n hx hb dX6_swaps_69 rfl (lv_at hl 0 rfl) ?_
          refine va_get (D := G) (ci := 6) (v := .int ((vM 0 8) + (1 : Int32))) (C := RX6) (T := TX6) (N := 29) hx hb hts fi_X6_swaps_X6 hown hEN.1 hP 0 rfl rfl 8 (by decide) (hts (.fieldLink RX6 145 "HourWellModel" "swapMany" "I") (List.mem_of_getElem? (i := 1) rfl)) (fun _ h9 => h9) rfl dX6_swaps_70 ?_
          have hres := Option.some.inj h
          subst hres
          exact hRet 73 _ _ _ hP hD hS dX6_swaps_73
        · have h := (if_pos c27).symm.trans h
          refine lv_bipush (v := (-3 : Int32)) hx hb dX6_swaps_30 k_bipush_n3 ?_
          have hres := Option.some.inj h
          subst hres
          exact hRet 32 _ _ _ hP hD hS dX6_swaps_32
      · have h := (if_pos c16).symm.trans h
        refine lv_iconst (v := (-1 : Int32)) hx hb dX6_swaps_19 k_iconst_n1 ?_
        have hres := Option.some.inj h
        subst hres
        exact hRet 20 _ _ _ hP hD hS dX6_swaps_20
abbrev rm_X6_tastes : Room := { frames := 2, cells := 0, slots := 0, locals := 45 }
theorem fi_X6_tastes_X6 : ∀ w ∈ wsX60, w ∈ wsX6_tastes := fun _ h => List.mem_cons_of_mem _ (List.mem_append_right _ h)
theorem hdV_X6_tastes : yX6_tastes.cls = RX6 ∧ yX6_tastes.cls ≠ "java/lang/invoke/MethodHandle" ∧ yX6_tastes.cls ≠ "java/lang/invoke/VarHandle" ∧ (parseMethodDescriptor yX6_tastes.desc).map (fun d => d.parameters.length) = some 2 := by decide +kernel
set_option maxRecDepth 100000 in
set_option maxHeartbeats 4000000 in
theorem c_X6_tastes (l : Launch) (G : va_G) (cI cZ : ClassId) (aM : Nat → Nat) (vT : Int64) (vM : Ob) (x1 : Int32) (x2 : Int32) (res : Int32 × Ob) (h : m_X6_tastes vM x1 x2 = some res) : Ct l yX6_tastes wsX6_tastes rm_X6_tastes G cI cZ [.ref (aM 0), .int x1, .int x2] [oX6 aM vM vT, ai cI (aM 1) 70 (vM 1), ai cI (aM 2) 70 (vM 2), ai cI (aM 3) 40 (vM 3), ai cI (aM 4) 80 (vM 4), ai cZ (aM 5) 2 (vM 5), ai cI (aM 6) 200 (vM 6), ai cI (aM 8) 12 (vM 8), ai cI (aM 10) 12 (vM 10), ai cI (aM 18) 427 (vM 18), ai cI (aM 21) 100 (vM 21), ai cI (aM 23) 100 (vM 23), ai cI (aM 24) 100 (vM 24), ai cI (aM 26) 7 (vM 26), ai cI (aM 27) 5 (vM 27), ai cI (aM 28) 64 (vM 28)] (some (.int res.1)) [oX6 aM res.2 vT, ai cI (aM 1) 70 (res.2 1), ai cI (aM 2) 70 (res.2 2), ai cI (aM 3) 40 (res.2 3), ai cI (aM 4) 80 (res.2 4), ai cZ (aM 5) 2 (res.2 5), ai cI (aM 6) 200 (res.2 6), ai cI (aM 8) 12 (res.2 8), ai cI (aM 10) 12 (res.2 10), ai cI (aM 18) 427 (res.2 18), ai cI (aM 21) 100 (res.2 21), ai cI (aM 23) 100 (res.2 23), ai cI (aM 24) 100 (res.2 24), ai cI (aM 26) 7 (res.2 26), ai cI (aM 27) 5 (res.2 27), ai cI (aM 28) 64 (res.2 28)] := by
  refine Ct.of_i (maxL := 3) (by decide) rfl (Nat.le_of_ble_eq_true rfl) ?_
  intro p e s m below meth c args hx hb hml hown hts A hA hEN hP hD hS Q hRet ls hl
  have hown : s.vm.findClass RX6 = some m.cls := hown
  have hl : lv_has ls 3 [(0, .ref (aM 0)), (1, .int x1), (2, .int x2)] := hl
  unfold m_X6_tastes at h
  refine lv_iload_n hx hb dX6_tastes_0 rfl (lv_at hl 1 rfl) ?_
  obtain ⟨o1, ho1, h⟩ := bnd_some h
  refine call_S0 (As := [.int x1]) (rest := []) ⟨hx, hb, hml, hown, hts⟩ (c_X6_isSeat l G cI cZ  x1 o1 ho1) (va_cwS 1 hts gX6_tastes_X6_isSeat rfl rfl rfl hdS_X6_isSeat ⟨Nat.le_of_ble_eq_true rfl, Nat.le_of_ble_eq_true rfl⟩) hEN hA hP hD hS [] rfl (by decide) rfl hl.1 rfl (Nat.le_of_ble_eq_true rfl) dX6_tastes_1 ⟨Nat.le_of_ble_eq_true rfl, Nat.le_of_ble_eq_true rfl⟩ (fun H locs hP hS => ?_)
  refine lv_if_eq (tgt := 14) hx hb dX6_tastes_4 (by decide) (fun c4 => ?_) (fun c4 => ?_)
  · have h := (if_pos c4).symm.trans h
    refine lv_iconst (v := (-1 : Int32)) hx hb dX6_tastes_14 k_iconst_n1 ?_
    have hres := Option.some.inj h
    subst hres
    exact hRet 15 _ _ _ hP hD hS dX6_tastes_15
  · have h := (if_neg c4).symm.trans h
    refine lv_iload_n hx hb dX6_tastes_7 rfl (lv_at hl 2 rfl) ?_
    obtain ⟨o8, ho8, h⟩ := bnd_some h
    refine call_S0 (As := [.int x2]) (rest := []) ⟨hx, hb, hml, hown, hts⟩ (c_X6_isSeat l G cI cZ  x2 o8 ho8) (va_cwS 1 hts gX6_tastes_X6_isSeat rfl rfl rfl hdS_X6_isSeat ⟨Nat.le_of_ble_eq_true rfl, Nat.le_of_ble_eq_true rfl⟩) hEN hA hP hD hS [] rfl (by decide) rfl hl.1 rfl (Nat.le_of_ble_eq_true rfl) dX6_tastes_8 ⟨Nat.le_of_ble_eq_true rfl, Nat.le_of_ble_eq_true rfl⟩ (fun H locs hP hS => ?_)
    refine lv_if_ne (tgt := 16) hx hb dX6_tastes_11 (by decide) (fun c11 => ?_) (fun c11 => ?_)
    · have h := (if_neg c11).symm.trans h
      refine lv_aload_n hx hb dX6_tastes_16 rfl (lv_at hl 0 rfl) ?_
      refine va_get (D := G) (ci := 6) (v := .int (vM 0 10)) (C := RX6) (T := TX6) (N := 29) hx hb hts fi_X6_tastes_X6 hown hEN.1 hP 0 rfl rfl 10 (by decide) (hts (.fieldLink RX6 148 "HourWellModel" "tasteMany" "I") (List.mem_of_getElem? (i := 1) rfl)) (fun _ h9 => h9) rfl dX6_tastes_17 ?_
      refine lv_bipush (v := (6 : Int32)) hx hb dX6_tastes_20 k_bipush_6 ?_
      refine lv_icmp_ne (tgt := 28) hx hb dX6_tastes_22 (by decide) (fun c22 => ?_) (fun c22 => ?_)
      · have h := (if_neg c22).symm.trans h
        refine lv_aload_n hx hb dX6_tastes_28 rfl (lv_at hl 0 rfl) ?_
        refine va_get (D := G) (ci := 6) (v := .ref (aM 10)) (C := RX6) (T := TX6) (N := 29) hx hb hts fi_X6_tastes_X6 hown hEN.1 hP 0 rfl rfl 9 (by decide) (hts (.fieldLink RX6 32 "HourWellModel" "tasted" "[I") (List.mem_of_getElem? (i := 2) rfl)) (fun _ h9 => h9) rfl dX6_tastes_29 ?_
        refine lv_iconst (v := (2 : Int32)) hx hb dX6_tastes_32 k_iconst_2 ?_
        refine lv_aload_n hx hb dX6_tastes_33 rfl (lv_at hl 0 rfl) ?_
        refine va_get (D := G) (ci := 6) (v := .int (vM 0 10)) (C := RX6) (T := TX6) (N := 29) hx hb hts fi_X6_tastes_X6 hown hEN.1 hP 0 rfl rfl 10 (by decide) (hts (.fieldLink RX6 148 "HourWellModel" "tasteMany" "I") (List.mem_of_getElem? (i := 1) rfl)) (fun _ h9 => h9) rfl dX6_tastes_34 ?_
        refine lv_imul hx hb dX6_tastes_37 ?_
        refine lv_iload_n hx hb dX6_tastes_38 rfl (lv_at hl 1 rfl) ?_
        obtain ⟨hg39, h⟩ := grd_some h
        refine va_iast (f := (vM 10)) hx hb hEN.1 hP hD hS 8 0 rfl rfl (inb_in hg39) dX6_tastes_39 (fun H locs hP hD hS => ?_)
        have hP : va_P G vwCl [oX6 aM vM vT, ai cI (aM 1) 70 (vM 1), ai cI (aM 2) 70 (vM 2), ai cI (aM 3) 40 (vM 3), ai cI (aM 4) 80 (vM 4), ai cZ (aM 5) 2 (vM 5), ai cI (aM 6) 200 (vM 6), ai cI (aM 8) 12 (vM 8), ai cI (aM 10) 12 (upd (vM 10) (Int32.toNatClampNeg ((2 : Int32) * (vM 0 10))) x1), ai cI (aM 18) 427 (vM 18), ai cI (aM 21) 100 (vM 21), ai cI (aM 23) 100 (vM 23), ai cI (aM 24) 100 (vM 24), ai cI (aM 26) 7 (vM 26), ai cI (aM 27) 5 (vM 27), ai cI (aM 28) 64 (vM 28)] H := hP
        have hD : va_D A [oX6 aM vM vT, ai cI (aM 1) 70 (vM 1), ai cI (aM 2) 70 (vM 2), ai cI (aM 3) 40 (vM 3), ai cI (aM 4) 80 (vM 4), ai cZ (aM 5) 2 (vM 5), ai cI (aM 6) 200 (vM 6), ai cI (aM 8) 12 (vM 8), ai cI (aM 10) 12 (upd (vM 10) (Int32.toNatClampNeg ((2 : Int32) * (vM 0 10))) x1), ai cI (aM 18) 427 (vM 18), ai cI (aM 21) 100 (vM 21), ai cI (aM 23) 100 (vM 23), ai cI (aM 24) 100 (vM 24), ai cI (aM 26) 7 (vM 26), ai cI (aM 27) 5 (vM 27), ai cI (aM 28) 64 (vM 28)] := hD
        refine lv_aload_n hx hb dX6_tastes_40 rfl (lv_at hl 0 rfl) ?_
        refine va_get (D := G) (ci := 6) (v := .ref (aM 10)) (C := RX6) (T := TX6) (N := 29) hx hb hts fi_X6_tastes_X6 hown hEN.1 hP 0 rfl rfl 9 (by decide) (hts (.fieldLink RX6 32 "HourWellModel" "tasted" "[I") (List.mem_of_getElem? (i := 2) rfl)) (fun _ h9 => h9) rfl dX6_tastes_41 ?_
        refine lv_iconst (v := (2 : Int32)) hx hb dX6_tastes_44 k_iconst_2 ?_
        refine lv_aload_n hx hb dX6_tastes_45 rfl (lv_at hl 0 rfl) ?_
        refine va_get (D := G) (ci := 6) (v := .int (vM 0 10)) (C := RX6) (T := TX6) (N := 29) hx hb hts fi_X6_tastes_X6 hown hEN.1 hP 0 rfl rfl 10 (by decide) (hts (.fieldLink RX6 148 "HourWellModel" "tasteMany" "I") (List.mem_of_getElem? (i := 1) rfl)) (fun _ h9 => h9) rfl dX6_tastes_46 ?_
        refine lv_imul hx hb dX6_tastes_49 ?_
        refine lv_iconst (v := (1 : Int32)) hx hb dX6_tastes_50 k_iconst_1 ?_
        refine lv_iadd hx hb dX6_tastes_51 ?_
        refine lv_iload_n hx hb dX6_tastes_52 rfl (lv_at hl 2 rfl) ?_
        obtain ⟨hg53, h⟩ := grd_some h
        refine va_iast (f := (upd (vM 10) (Int32.toNatClampNeg ((2 : Int32) * (vM 0 10))) x1)) hx hb hEN.1 hP hD hS 8 0 rfl rfl (inb_in hg53) dX6_tastes_53 (fun H locs hP hD hS => ?_)
        have hP : va_P G vwCl [oX6 aM vM vT, ai cI (aM 1) 70 (vM 1), ai cI (aM 2) 70 (vM 2), ai cI (aM 3) 40 (vM 3), ai cI (aM 4) 80 (vM 4), ai cZ (aM 5) 2 (vM 5), ai cI (aM 6) 200 (vM 6), ai cI (aM 8) 12 (vM 8), ai cI (aM 10) 12 (upd (upd (vM 10) (Int32.toNatClampNeg ((2 : Int32) * (vM 0 10))) x1) (Int32.toNatClampNeg (((2 : Int32) * (vM 0 10)) + (1 : Int32))) x2), ai cI (aM 18) 427 (vM 18), ai cI (aM 21) 100 (vM 21), ai cI (aM 23) 100 (vM 23), ai cI (aM 24) 100 (vM 24), ai cI (aM 26) 7 (vM 26), ai cI (aM 27) 5 (vM 27), ai cI (aM 28) 64 (vM 28)] H := hP
        have hD : va_D A [oX6 aM vM vT, ai cI (aM 1) 70 (vM 1), ai cI (aM 2) 70 (vM 2), ai cI (aM 3) 40 (vM 3), ai cI (aM 4) 80 (vM 4), ai cZ (aM 5) 2 (vM 5), ai cI (aM 6) 200 (vM 6), ai cI (aM 8) 12 (vM 8), ai cI (aM 10) 12 (upd (upd (vM 10) (Int32.toNatClampNeg ((2 : Int32) * (vM 0 10))) x1) (Int32.toNatClampNeg (((2 : Int32) * (vM 0 10)) + (1 : Int32))) x2), ai cI (aM 18) 427 (vM 18), ai cI (aM 21) 100 (vM 21), ai cI (aM 23) 100 (vM 23), ai cI (aM 24) 100 (vM 24), ai cI (aM 26) 7 (vM 26), ai cI (aM 27) 5 (vM 27), ai cI (aM 28) 64 (vM 28)] := hD
        refine lv_aload_n hx hb dX6_tastes_54 rfl (lv_at hl 0 rfl) ?_
        refine lv_dup hx hb dX6_tastes_55 rfl ?_
        refine va_get (D := G) (ci := 6) (v := .int (vM 0 10)) (C := RX6) (T := TX6) (N := 29) hx hb hts fi_X6_tastes_X6 hown hEN.1 hP 0 rfl rfl 10 (by decide) (hts (.fieldLink RX6 148 "HourWellModel" "tasteMany" "I") (List.mem_of_getElem? (i := 1) rfl)) (fun _ h9 => h9) rfl dX6_tastes_56 ?_
        refine lv_iconst (v := (1 : Int32)) hx hb dX6_tastes_59 k_iconst_1 ?_
        refine lv_iadd hx hb dX6_tastes_60 ?_
        refine va_put (D := G) (ci := 6) (v := .int ((vM 0 10) + (1 : Int32))) (ty := .int) (C := RX6) (T := TX6) (N := 29) hx hb hts fi_X6_tastes_X6 tyX6 tyX6_ok nmX6 hown hEN.1 hP hD hS 0 rfl rfl 10 (by decide) (hts (.fieldLink RX6 148 "HourWellModel" "tasteMany" "I") (List.mem_of_getElem? (i := 1) rfl)) (fun _ h9 => h9) rfl (by decide +kernel) rfl rfl (Nat.le_of_ble_eq_true rfl) dX6_tastes_61 (fun H locs hP hD hS => ?_)
        have hP : va_P G vwCl [oX6 aM (st vM 0 10 ((vM 0 10) + (1 : Int32))) vT, ai cI (aM 1) 70 (vM 1), ai cI (aM 2) 70 (vM 2), ai cI (aM 3) 40 (vM 3), ai cI (aM 4) 80 (vM 4), ai cZ (aM 5) 2 (vM 5), ai cI (aM 6) 200 (vM 6), ai cI (aM 8) 12 (vM 8), ai cI (aM 10) 12 (upd (upd (vM 10) (Int32.toNatClampNeg ((2 : Int32) * (vM 0 10))) x1) (Int32.toNatClampNeg (((2 : Int32) * (vM 0 10)) + (1 : Int32))) x2), ai cI (aM 18) 427 (vM 18), ai cI (aM 21) 100 (vM 21), ai cI (aM 23) 100 (vM 23), ai cI (aM 24) 100 (vM 24), ai cI (aM 26) 7 (vM 26), ai cI (aM 27) 5 (vM 27), ai cI (aM 28) 64 (vM 28)] H := hP
        have hD : va_D A [oX6 aM (st vM 0 10 ((vM 0 10) + (1 : Int32))) vT, ai cI (aM 1) 70 (vM 1), ai cI (aM 2) 70 (vM 2), ai cI (aM 3) 40 (vM 3), ai cI (aM 4) 80 (vM 4), ai cZ (aM 5) 2 (vM 5), ai cI (aM 6) 200 (vM 6), ai cI (aM 8) 12 (vM 8), ai cI (aM 10) 12 (upd (upd (vM 10) (Int32.toNatClampNeg ((2 : Int32) * (vM 0 10))) x1) (Int32.toNatClampNeg (((2 : Int32) * (vM 0 10)) + (1 : Int32))) x2), ai cI (aM 18) 427 (vM 18), ai cI (aM 21) 100 (vM 21), ai cI (aM 23) 100 (vM 23), ai cI (aM 24) 100 (vM 24), ai cI (aM 26) 7 (vM 26), ai cI (aM 27) 5 (vM 27), ai cI (aM 28) 64 (vM 28)] := hD
        refine lv_aload_n hx hb dX6_tastes_64 rfl (lv_at hl 0 rfl) ?_
        refine va_get (D := G) (ci := 6) (v := .int ((vM 0 10) + (1 : Int32))) (C := RX6) (T := TX6) (N := 29) hx hb hts fi_X6_tastes_X6 hown hEN.1 hP 0 rfl rfl 10 (by decide) (hts (.fieldLink RX6 148 "HourWellModel" "tasteMany" "I") (List.mem_of_getElem? (i := 1) rfl)) (fun _ h9 => h9) rfl dX6_tastes_65 ?_
        have hres := Option.some.inj h
        subst hres
        exact hRet 68 _ _ _ hP hD hS dX6_tastes_68
      · have h := (if_pos c22).symm.trans h
        refine lv_bipush (v := (-3 : Int32)) hx hb dX6_tastes_25 k_bipush_n3 ?_
        have hres := Option.some.inj h
        subst hres
        exact hRet 27 _ _ _ hP hD hS dX6_tastes_27
    · have h := (if_pos c11).symm.trans h
      refine lv_iconst (v := (-1 : Int32)) hx hb dX6_tastes_14 k_iconst_n1 ?_
      have hres := Option.some.inj h
      subst hres
      exact hRet 15 _ _ _ hP hD hS dX6_tastes_15
abbrev rm_X6_clears : Room := { frames := 0, cells := 0, slots := 0, locals := 0 }
theorem fi_X6_clears_X6 : ∀ w ∈ wsX60, w ∈ wsX6_clears := fun _ h => List.mem_cons_of_mem _ (List.mem_append_right _ h)
theorem hdV_X6_clears : yX6_clears.cls = RX6 ∧ yX6_clears.cls ≠ "java/lang/invoke/MethodHandle" ∧ yX6_clears.cls ≠ "java/lang/invoke/VarHandle" ∧ (parseMethodDescriptor yX6_clears.desc).map (fun d => d.parameters.length) = some 0 := by decide +kernel
set_option maxRecDepth 100000 in
set_option maxHeartbeats 4000000 in
theorem c_X6_clears (l : Launch) (G : va_G) (cI cZ : ClassId) (aM : Nat → Nat) (vT : Int64) (vM : Ob)  (res : Int32 × Ob) (h : m_X6_clears vM  = some res) : Ct l yX6_clears wsX6_clears rm_X6_clears G cI cZ [.ref (aM 0)] [oX6 aM vM vT, ai cI (aM 1) 70 (vM 1), ai cI (aM 2) 70 (vM 2), ai cI (aM 3) 40 (vM 3), ai cI (aM 4) 80 (vM 4), ai cZ (aM 5) 2 (vM 5), ai cI (aM 6) 200 (vM 6), ai cI (aM 8) 12 (vM 8), ai cI (aM 10) 12 (vM 10), ai cI (aM 18) 427 (vM 18), ai cI (aM 21) 100 (vM 21), ai cI (aM 23) 100 (vM 23), ai cI (aM 24) 100 (vM 24), ai cI (aM 26) 7 (vM 26), ai cI (aM 27) 5 (vM 27), ai cI (aM 28) 64 (vM 28)] (some (.int res.1)) [oX6 aM res.2 vT, ai cI (aM 1) 70 (res.2 1), ai cI (aM 2) 70 (res.2 2), ai cI (aM 3) 40 (res.2 3), ai cI (aM 4) 80 (res.2 4), ai cZ (aM 5) 2 (res.2 5), ai cI (aM 6) 200 (res.2 6), ai cI (aM 8) 12 (res.2 8), ai cI (aM 10) 12 (res.2 10), ai cI (aM 18) 427 (res.2 18), ai cI (aM 21) 100 (res.2 21), ai cI (aM 23) 100 (res.2 23), ai cI (aM 24) 100 (res.2 24), ai cI (aM 26) 7 (res.2 26), ai cI (aM 27) 5 (res.2 27), ai cI (aM 28) 64 (res.2 28)] := by
  refine Ct.of_i (maxL := 2) (by decide) rfl (Nat.le_of_ble_eq_true rfl) ?_
  intro p e s m below meth c args hx hb hml hown hts A hA hEN hP hD hS Q hRet ls hl
  have hown : s.vm.findClass RX6 = some m.cls := hown
  have hl : lv_has ls 2 [(0, .ref (aM 0))] := hl
  unfold m_X6_clears at h
  refine lv_aload_n hx hb dX6_clears_0 rfl (lv_at hl 0 rfl) ?_
  refine va_get (D := G) (ci := 6) (v := .int (vM 0 8)) (C := RX6) (T := TX6) (N := 29) hx hb hts fi_X6_clears_X6 hown hEN.1 hP 0 rfl rfl 8 (by decide) (hts (.fieldLink RX6 145 "HourWellModel" "swapMany" "I") (List.mem_of_getElem? (i := 1) rfl)) (fun _ h9 => h9) rfl dX6_clears_1 ?_
  refine lv_aload_n hx hb dX6_clears_4 rfl (lv_at hl 0 rfl) ?_
  refine va_get (D := G) (ci := 6) (v := .int (vM 0 10)) (C := RX6) (T := TX6) (N := 29) hx hb hts fi_X6_clears_X6 hown hEN.1 hP 0 rfl rfl 10 (by decide) (hts (.fieldLink RX6 148 "HourWellModel" "tasteMany" "I") (List.mem_of_getElem? (i := 2) rfl)) (fun _ h9 => h9) rfl dX6_clears_5 ?_
  refine lv_iadd hx hb dX6_clears_8 ?_
  refine lv_istore_n (lv' := [(1, .int ((vM 0 8) + (vM 0 10))), (0, .ref (aM 0))]) hx hb dX6_clears_9 rfl hl (by decide) rfl (fun ls hl => ?_)
  refine lv_aload_n hx hb dX6_clears_10 rfl (lv_at hl 1 rfl) ?_
  refine lv_iconst (v := (0 : Int32)) hx hb dX6_clears_11 k_iconst_0 ?_
  refine va_put (D := G) (ci := 6) (v := .int (0 : Int32)) (ty := .int) (C := RX6) (T := TX6) (N := 29) hx hb hts fi_X6_clears_X6 tyX6 tyX6_ok nmX6 hown hEN.1 hP hD hS 0 rfl rfl 8 (by decide) (hts (.fieldLink RX6 145 "HourWellModel" "swapMany" "I") (List.mem_of_getElem? (i := 1) rfl)) (fun _ h9 => h9) rfl (by decide +kernel) rfl rfl (Nat.le_of_ble_eq_true rfl) dX6_clears_12 (fun H locs hP hD hS => ?_)
  have hP : va_P G vwCl [oX6 aM (st vM 0 8 (0 : Int32)) vT, ai cI (aM 1) 70 (vM 1), ai cI (aM 2) 70 (vM 2), ai cI (aM 3) 40 (vM 3), ai cI (aM 4) 80 (vM 4), ai cZ (aM 5) 2 (vM 5), ai cI (aM 6) 200 (vM 6), ai cI (aM 8) 12 (vM 8), ai cI (aM 10) 12 (vM 10), ai cI (aM 18) 427 (vM 18), ai cI (aM 21) 100 (vM 21), ai cI (aM 23) 100 (vM 23), ai cI (aM 24) 100 (vM 24), ai cI (aM 26) 7 (vM 26), ai cI (aM 27) 5 (vM 27), ai cI (aM 28) 64 (vM 28)] H := hP
  have hD : va_D A [oX6 aM (st vM 0 8 (0 : Int32)) vT, ai cI (aM 1) 70 (vM 1), ai cI (aM 2) 70 (vM 2), ai cI (aM 3) 40 (vM 3), ai cI (aM 4) 80 (vM 4), ai cZ (aM 5) 2 (vM 5), ai cI (aM 6) 200 (vM 6), ai cI (aM 8) 12 (vM 8), ai cI (aM 10) 12 (vM 10), ai cI (aM 18) 427 (vM 18), ai cI (aM 21) 100 (vM 21), ai cI (aM 23) 100 (vM 23), ai cI (aM 24) 100 (vM 24), ai cI (aM 26) 7 (vM 26), ai cI (aM 27) 5 (vM 27), ai cI (aM 28) 64 (vM 28)] := hD
  refine lv_aload_n hx hb dX6_clears_15 rfl (lv_at hl 1 rfl) ?_
  refine lv_iconst (v := (0 : Int32)) hx hb dX6_clears_16 k_iconst_0 ?_
  refine va_put (D := G) (ci := 6) (v := .int (0 : Int32)) (ty := .int) (C := RX6) (T := TX6) (N := 29) hx hb hts fi_X6_clears_X6 tyX6 tyX6_ok nmX6 hown hEN.1 hP hD hS 0 rfl rfl 10 (by decide) (hts (.fieldLink RX6 148 "HourWellModel" "tasteMany" "I") (List.mem_of_getElem? (i := 2) rfl)) (fun _ h9 => h9) rfl (by decide +kernel) rfl rfl (Nat.le_of_ble_eq_true rfl) dX6_clears_17 (fun H locs hP hD hS => ?_)
  have hP : va_P G vwCl [oX6 aM (st (st vM 0 8 (0 : Int32)) 0 10 (0 : Int32)) vT, ai cI (aM 1) 70 (vM 1), ai cI (aM 2) 70 (vM 2), ai cI (aM 3) 40 (vM 3), ai cI (aM 4) 80 (vM 4), ai cZ (aM 5) 2 (vM 5), ai cI (aM 6) 200 (vM 6), ai cI (aM 8) 12 (vM 8), ai cI (aM 10) 12 (vM 10), ai cI (aM 18) 427 (vM 18), ai cI (aM 21) 100 (vM 21), ai cI (aM 23) 100 (vM 23), ai cI (aM 24) 100 (vM 24), ai cI (aM 26) 7 (vM 26), ai cI (aM 27) 5 (vM 27), ai cI (aM 28) 64 (vM 28)] H := hP
  have hD : va_D A [oX6 aM (st (st vM 0 8 (0 : Int32)) 0 10 (0 : Int32)) vT, ai cI (aM 1) 70 (vM 1), ai cI (aM 2) 70 (vM 2), ai cI (aM 3) 40 (vM 3), ai cI (aM 4) 80 (vM 4), ai cZ (aM 5) 2 (vM 5), ai cI (aM 6) 200 (vM 6), ai cI (aM 8) 12 (vM 8), ai cI (aM 10) 12 (vM 10), ai cI (aM 18) 427 (vM 18), ai cI (aM 21) 100 (vM 21), ai cI (aM 23) 100 (vM 23), ai cI (aM 24) 100 (vM 24), ai cI (aM 26) 7 (vM 26), ai cI (aM 27) 5 (vM 27), ai cI (aM 28) 64 (vM 28)] := hD
  refine lv_iload_n hx hb dX6_clears_20 rfl (lv_at hl 0 rfl) ?_
  have hres := Option.some.inj h
  subst hres
  exact hRet 21 _ _ _ hP hD hS dX6_clears_21
abbrev rm_X6_layCups : Room := { frames := 1, cells := 0, slots := 0, locals := 21 }
theorem fi_X6_layCups_X6 : ∀ w ∈ wsX60, w ∈ wsX6_layCups := fun _ h => List.mem_cons_of_mem _ (List.mem_append_right _ h)
theorem hdV_X6_layCups : yX6_layCups.cls = RX6 ∧ yX6_layCups.cls ≠ "java/lang/invoke/MethodHandle" ∧ yX6_layCups.cls ≠ "java/lang/invoke/VarHandle" ∧ (parseMethodDescriptor yX6_layCups.desc).map (fun d => d.parameters.length) = some 2 := by decide +kernel
set_option maxRecDepth 100000 in
set_option maxHeartbeats 4000000 in
theorem c_X6_layCups (l : Launch) (G : va_G) (cI cZ : ClassId) (aM : Nat → Nat) (vT : Int64) (vM : Ob) (x1 : Int32) (x2 : Int32) (res : Int32 × Ob) (h : m_X6_layCups vM x1 x2 = some res) : Ct l yX6_layCups wsX6_layCups rm_X6_layCups G cI cZ [.ref (aM 0), .int x1, .int x2] [oX6 aM vM vT, ai cI (aM 1) 70 (vM 1), ai cI (aM 2) 70 (vM 2), ai cI (aM 3) 40 (vM 3), ai cI (aM 4) 80 (vM 4), ai cZ (aM 5) 2 (vM 5), ai cI (aM 6) 200 (vM 6), ai cI (aM 8) 12 (vM 8), ai cI (aM 10) 12 (vM 10), ai cI (aM 18) 427 (vM 18), ai cI (aM 21) 100 (vM 21), ai cI (aM 23) 100 (vM 23), ai cI (aM 24) 100 (vM 24), ai cI (aM 26) 7 (vM 26), ai cI (aM 27) 5 (vM 27), ai cI (aM 28) 64 (vM 28)] (some (.int res.1)) [oX6 aM res.2 vT, ai cI (aM 1) 70 (res.2 1), ai cI (aM 2) 70 (res.2 2), ai cI (aM 3) 40 (res.2 3), ai cI (aM 4) 80 (res.2 4), ai cZ (aM 5) 2 (res.2 5), ai cI (aM 6) 200 (res.2 6), ai cI (aM 8) 12 (res.2 8), ai cI (aM 10) 12 (res.2 10), ai cI (aM 18) 427 (res.2 18), ai cI (aM 21) 100 (res.2 21), ai cI (aM 23) 100 (res.2 23), ai cI (aM 24) 100 (res.2 24), ai cI (aM 26) 7 (res.2 26), ai cI (aM 27) 5 (res.2 27), ai cI (aM 28) 64 (res.2 28)] := by
  refine Ct.of_z (maxL := 7) (by decide) rfl (Nat.le_of_ble_eq_true rfl) ?_
  intro p e s m below meth c args hx hb hml hown hts A hA hEN hP hD hS Q hRet ls hl
  have hown : s.vm.findClass RX6 = some m.cls := hown
  have hl : lv_has ls 7 [(0, .ref (aM 0)), (1, .int x1), (2, .int x2)] := hl
  have L2 : ∀ (out : Ob × Int32 × Int32), (∀ ex : Ob × Int32 × Int32, out = ex → ∀ (H : Heap) (locs : List Loc) (ls : Array Slot), va_P G vwCl [oX6 aM ex.1 vT, ai cI (aM 1) 70 (ex.1 1), ai cI (aM 2) 70 (ex.1 2), ai cI (aM 3) 40 (ex.1 3), ai cI (aM 4) 80 (ex.1 4), ai cZ (aM 5) 2 (ex.1 5), ai cI (aM 6) 200 (ex.1 6), ai cI (aM 8) 12 (ex.1 8), ai cI (aM 10) 12 (ex.1 10), ai cI (aM 18) 427 (ex.1 18), ai cI (aM 21) 100 (ex.1 21), ai cI (aM 23) 100 (ex.1 23), ai cI (aM 24) 100 (ex.1 24), ai cI (aM 26) 7 (ex.1 26), ai cI (aM 27) 5 (ex.1 27), ai cI (aM 28) 64 (ex.1 28)] H → va_D A [oX6 aM ex.1 vT, ai cI (aM 1) 70 (ex.1 1), ai cI (aM 2) 70 (ex.1 2), ai cI (aM 3) 40 (ex.1 3), ai cI (aM 4) 80 (ex.1 4), ai cZ (aM 5) 2 (ex.1 5), ai cI (aM 6) 200 (ex.1 6), ai cI (aM 8) 12 (ex.1 8), ai cI (aM 10) 12 (ex.1 10), ai cI (aM 18) 427 (ex.1 18), ai cI (aM 21) 100 (ex.1 21), ai cI (aM 23) 100 (ex.1 23), ai cI (aM 24) 100 (ex.1 24), ai cI (aM 26) 7 (ex.1 26), ai cI (aM 27) 5 (ex.1 27), ai cI (aM 28) 64 (ex.1 28)] → va_S A s.heap H locs → lv_has ls 7 [(0, .ref (aM 0)), (1, .int ex.2.1), (2, .int ex.2.2)] → W p l e rm_X6_layCups s m args below meth c H locs 0 0 Q (F0 m 20 ls [])) → ∀ (n : Nat) (vM : Ob) (x1 : Int32) (x2 : Int32) (x3 : Int32), m_X6_layCups_L2  n vM x1 x2 x3 = some out → ∀ (H : Heap) (locs : List Loc) (ls : Array Slot), va_P G vwCl [oX6 aM vM vT, ai cI (aM 1) 70 (vM 1), ai cI (aM 2) 70 (vM 2), ai cI (aM 3) 40 (vM 3), ai cI (aM 4) 80 (vM 4), ai cZ (aM 5) 2 (vM 5), ai cI (aM 6) 200 (vM 6), ai cI (aM 8) 12 (vM 8), ai cI (aM 10) 12 (vM 10), ai cI (aM 18) 427 (vM 18), ai cI (aM 21) 100 (vM 21), ai cI (aM 23) 100 (vM 23), ai cI (aM 24) 100 (vM 24), ai cI (aM 26) 7 (vM 26), ai cI (aM 27) 5 (vM 27), ai cI (aM 28) 64 (vM 28)] H → va_D A [oX6 aM vM vT, ai cI (aM 1) 70 (vM 1), ai cI (aM 2) 70 (vM 2), ai cI (aM 3) 40 (vM 3), ai cI (aM 4) 80 (vM 4), ai cZ (aM 5) 2 (vM 5), ai cI (aM 6) 200 (vM 6), ai cI (aM 8) 12 (vM 8), ai cI (aM 10) 12 (vM 10), ai cI (aM 18) 427 (vM 18), ai cI (aM 21) 100 (vM 21), ai cI (aM 23) 100 (vM 23), ai cI (aM 24) 100 (vM 24), ai cI (aM 26) 7 (vM 26), ai cI (aM 27) 5 (vM 27), ai cI (aM 28) 64 (vM 28)] → va_S A s.heap H locs → lv_has ls 7 [(0, .ref (aM 0)), (1, .int x1), (2, .int x2), (3, .int x3)] → W p l e rm_X6_layCups s m args below meth c H locs 0 0 Q (F0 m 2 ls []) := by
    intro out hKx
    intro n
    induction n with
    | zero => intro vM x1 x2 x3 h; exact nomatch (show (none : Option (Ob × Int32 × Int32)) = some out from h)
    | succ n hrc =>
      intro vM x1 x2 x3 h H locs ls hP hD hS hl
      have h : m_X6_layCups_L2B  (m_X6_layCups_L2  n) vM x1 x2 x3 = some out := h
      generalize m_X6_layCups_L2  n = rc at h hrc
      unfold m_X6_layCups_L2B at h
      refine lv_iload_n hx hb dX6_layCups_2 rfl (lv_at hl 3 rfl) ?_
      refine lv_iconst (v := (5 : Int32)) hx hb dX6_layCups_3 k_iconst_5 ?_
      refine lv_icmp_ge (tgt := 20) hx hb dX6_layCups_4 (by decide) (fun c4 => ?_) (fun c4 => ?_)
      · have h := (if_pos c4).symm.trans h
        exact hKx _ (Option.some.inj h).symm _ _ _ hP hD hS (lv_sub hl [0, 1, 2] rfl)
      · have h := (if_neg c4).symm.trans h
        refine lv_aload_n hx hb dX6_layCups_7 rfl (lv_at hl 0 rfl) ?_
        refine va_get (D := G) (ci := 6) (v := .ref (aM 27)) (C := RX6) (T := TX6) (N := 29) hx hb hts fi_X6_layCups_X6 hown hEN.1 hP 0 rfl rfl 26 (by decide) (hts (.fieldLink RX6 50 "HourWellModel" "row" "[I") (List.mem_of_getElem? (i := 1) rfl)) (fun _ h9 => h9) rfl dX6_layCups_8 ?_
        refine lv_iload_n hx hb dX6_layCups_11 rfl (lv_at hl 3 rfl) ?_
        refine lv_iload_n hx hb dX6_layCups_12 rfl (lv_at hl 3 rfl) ?_
        obtain ⟨hg13, h⟩ := grd_some h
        refine va_iast (f := (vM 27)) hx hb hEN.1 hP hD hS 14 0 rfl rfl (inb_in hg13) dX6_layCups_13 (fun H locs hP hD hS => ?_)
        have hP : va_P G vwCl [oX6 aM vM vT, ai cI (aM 1) 70 (vM 1), ai cI (aM 2) 70 (vM 2), ai cI (aM 3) 40 (vM 3), ai cI (aM 4) 80 (vM 4), ai cZ (aM 5) 2 (vM 5), ai cI (aM 6) 200 (vM 6), ai cI (aM 8) 12 (vM 8), ai cI (aM 10) 12 (vM 10), ai cI (aM 18) 427 (vM 18), ai cI (aM 21) 100 (vM 21), ai cI (aM 23) 100 (vM 23), ai cI (aM 24) 100 (vM 24), ai cI (aM 26) 7 (vM 26), ai cI (aM 27) 5 (upd (vM 27) (Int32.toNatClampNeg x3) x3), ai cI (aM 28) 64 (vM 28)] H := hP
        have hD : va_D A [oX6 aM vM vT, ai cI (aM 1) 70 (vM 1), ai cI (aM 2) 70 (vM 2), ai cI (aM 3) 40 (vM 3), ai cI (aM 4) 80 (vM 4), ai cZ (aM 5) 2 (vM 5), ai cI (aM 6) 200 (vM 6), ai cI (aM 8) 12 (vM 8), ai cI (aM 10) 12 (vM 10), ai cI (aM 18) 427 (vM 18), ai cI (aM 21) 100 (vM 21), ai cI (aM 23) 100 (vM 23), ai cI (aM 24) 100 (vM 24), ai cI (aM 26) 7 (vM 26), ai cI (aM 27) 5 (upd (vM 27) (Int32.toNatClampNeg x3) x3), ai cI (aM 28) 64 (vM 28)] := hD
        refine lv_iinc (v := (x3 + (1 : Int32))) (lv' := [(3, .int (x3 + (1 : Int32))), (0, .ref (aM 0)), (1, .int x1), (2, .int x2)]) hx hb dX6_layCups_14 hl (k := 3) rfl (congrArg (fun z => x3 + z) k_iconst_1) (by decide) rfl (fun ls hl => ?_)
        refine lv_goto (tgt := 2) hx hb dX6_layCups_17 (by decide) ?_
        exact hrc (st vM 27 (Int32.toNatClampNeg x3) x3) x1 x2 (x3 + (1 : Int32)) h _ _ _ hP hD hS (lv_sub hl [1, 2, 3, 0] rfl)
  have L22 : ∀ (out : Ob × Int32), (∀ ex : Ob × Int32, out = ex → ∀ (H : Heap) (locs : List Loc) (ls : Array Slot), va_P G vwCl [oX6 aM ex.1 vT, ai cI (aM 1) 70 (ex.1 1), ai cI (aM 2) 70 (ex.1 2), ai cI (aM 3) 40 (ex.1 3), ai cI (aM 4) 80 (ex.1 4), ai cZ (aM 5) 2 (ex.1 5), ai cI (aM 6) 200 (ex.1 6), ai cI (aM 8) 12 (ex.1 8), ai cI (aM 10) 12 (ex.1 10), ai cI (aM 18) 427 (ex.1 18), ai cI (aM 21) 100 (ex.1 21), ai cI (aM 23) 100 (ex.1 23), ai cI (aM 24) 100 (ex.1 24), ai cI (aM 26) 7 (ex.1 26), ai cI (aM 27) 5 (ex.1 27), ai cI (aM 28) 64 (ex.1 28)] H → va_D A [oX6 aM ex.1 vT, ai cI (aM 1) 70 (ex.1 1), ai cI (aM 2) 70 (ex.1 2), ai cI (aM 3) 40 (ex.1 3), ai cI (aM 4) 80 (ex.1 4), ai cZ (aM 5) 2 (ex.1 5), ai cI (aM 6) 200 (ex.1 6), ai cI (aM 8) 12 (ex.1 8), ai cI (aM 10) 12 (ex.1 10), ai cI (aM 18) 427 (ex.1 18), ai cI (aM 21) 100 (ex.1 21), ai cI (aM 23) 100 (ex.1 23), ai cI (aM 24) 100 (ex.1 24), ai cI (aM 26) 7 (ex.1 26), ai cI (aM 27) 5 (ex.1 27), ai cI (aM 28) 64 (ex.1 28)] → va_S A s.heap H locs → lv_has ls 7 [(0, .ref (aM 0)), (1, .int ex.2)] → W p l e rm_X6_layCups s m args below meth c H locs 0 0 Q (F0 m 110 ls [])) → ∀ (n : Nat) (vM : Ob) (x1 : Int32) (x2 : Int32) (x3 : Int32), m_X6_layCups_L22  n vM x1 x2 x3 = some out → ∀ (H : Heap) (locs : List Loc) (ls : Array Slot), va_P G vwCl [oX6 aM vM vT, ai cI (aM 1) 70 (vM 1), ai cI (aM 2) 70 (vM 2), ai cI (aM 3) 40 (vM 3), ai cI (aM 4) 80 (vM 4), ai cZ (aM 5) 2 (vM 5), ai cI (aM 6) 200 (vM 6), ai cI (aM 8) 12 (vM 8), ai cI (aM 10) 12 (vM 10), ai cI (aM 18) 427 (vM 18), ai cI (aM 21) 100 (vM 21), ai cI (aM 23) 100 (vM 23), ai cI (aM 24) 100 (vM 24), ai cI (aM 26) 7 (vM 26), ai cI (aM 27) 5 (vM 27), ai cI (aM 28) 64 (vM 28)] H → va_D A [oX6 aM vM vT, ai cI (aM 1) 70 (vM 1), ai cI (aM 2) 70 (vM 2), ai cI (aM 3) 40 (vM 3), ai cI (aM 4) 80 (vM 4), ai cZ (aM 5) 2 (vM 5), ai cI (aM 6) 200 (vM 6), ai cI (aM 8) 12 (vM 8), ai cI (aM 10) 12 (vM 10), ai cI (aM 18) 427 (vM 18), ai cI (aM 21) 100 (vM 21), ai cI (aM 23) 100 (vM 23), ai cI (aM 24) 100 (vM 24), ai cI (aM 26) 7 (vM 26), ai cI (aM 27) 5 (vM 27), ai cI (aM 28) 64 (vM 28)] → va_S A s.heap H locs → lv_has ls 7 [(0, .ref (aM 0)), (1, .int x1), (2, .int x2), (3, .int x3)] → W p l e rm_X6_layCups s m args below meth c H locs 0 0 Q (F0 m 22 ls []) := by
    intro out hKx
    have j104 : ∀ (rc : Ob → Int32 → Int32 → Int32 → Option (Ob × Int32)), (∀ (vM : Ob) (x1 : Int32) (x2 : Int32) (x3 : Int32), rc vM x1 x2 x3 = some out → ∀ (H : Heap) (locs : List Loc) (ls : Array Slot), va_P G vwCl [oX6 aM vM vT, ai cI (aM 1) 70 (vM 1), ai cI (aM 2) 70 (vM 2), ai cI (aM 3) 40 (vM 3), ai cI (aM 4) 80 (vM 4), ai cZ (aM 5) 2 (vM 5), ai cI (aM 6) 200 (vM 6), ai cI (aM 8) 12 (vM 8), ai cI (aM 10) 12 (vM 10), ai cI (aM 18) 427 (vM 18), ai cI (aM 21) 100 (vM 21), ai cI (aM 23) 100 (vM 23), ai cI (aM 24) 100 (vM 24), ai cI (aM 26) 7 (vM 26), ai cI (aM 27) 5 (vM 27), ai cI (aM 28) 64 (vM 28)] H → va_D A [oX6 aM vM vT, ai cI (aM 1) 70 (vM 1), ai cI (aM 2) 70 (vM 2), ai cI (aM 3) 40 (vM 3), ai cI (aM 4) 80 (vM 4), ai cZ (aM 5) 2 (vM 5), ai cI (aM 6) 200 (vM 6), ai cI (aM 8) 12 (vM 8), ai cI (aM 10) 12 (vM 10), ai cI (aM 18) 427 (vM 18), ai cI (aM 21) 100 (vM 21), ai cI (aM 23) 100 (vM 23), ai cI (aM 24) 100 (vM 24), ai cI (aM 26) 7 (vM 26), ai cI (aM 27) 5 (vM 27), ai cI (aM 28) 64 (vM 28)] → va_S A s.heap H locs → lv_has ls 7 [(0, .ref (aM 0)), (1, .int x1), (2, .int x2), (3, .int x3)] → W p l e rm_X6_layCups s m args below meth c H locs 0 0 Q (F0 m 22 ls [])) → ∀ (vM : Ob) (x1 : Int32) (x2 : Int32) (x3 : Int32), m_X6_layCups_j104  rc vM x1 x2 x3 = some out → ∀ (H : Heap) (locs : List Loc) (ls : Array Slot), va_P G vwCl [oX6 aM vM vT, ai cI (aM 1) 70 (vM 1), ai cI (aM 2) 70 (vM 2), ai cI (aM 3) 40 (vM 3), ai cI (aM 4) 80 (vM 4), ai cZ (aM 5) 2 (vM 5), ai cI (aM 6) 200 (vM 6), ai cI (aM 8) 12 (vM 8), ai cI (aM 10) 12 (vM 10), ai cI (aM 18) 427 (vM 18), ai cI (aM 21) 100 (vM 21), ai cI (aM 23) 100 (vM 23), ai cI (aM 24) 100 (vM 24), ai cI (aM 26) 7 (vM 26), ai cI (aM 27) 5 (vM 27), ai cI (aM 28) 64 (vM 28)] H → va_D A [oX6 aM vM vT, ai cI (aM 1) 70 (vM 1), ai cI (aM 2) 70 (vM 2), ai cI (aM 3) 40 (vM 3), ai cI (aM 4) 80 (vM 4), ai cZ (aM 5) 2 (vM 5), ai cI (aM 6) 200 (vM 6), ai cI (aM 8) 12 (vM 8), ai cI (aM 10) 12 (vM 10), ai cI (aM 18) 427 (vM 18), ai cI (aM 21) 100 (vM 21), ai cI (aM 23) 100 (vM 23), ai cI (aM 24) 100 (vM 24), ai cI (aM 26) 7 (vM 26), ai cI (aM 27) 5 (vM 27), ai cI (aM 28) 64 (vM 28)] → va_S A s.heap H locs → lv_has ls 7 [(0, .ref (aM 0)), (1, .int x1), (2, .int x2), (3, .int x3)] → W p l e rm_X6_layCups s m args below meth c H locs 0 0 Q (F0 m 104 ls []) := by
      intro rc hrc vM x1 x2 x3 h H locs ls hP hD hS hl
      unfold m_X6_layCups_j104 at h
      refine lv_iinc (v := (x3 + (1 : Int32))) (lv' := [(3, .int (x3 + (1 : Int32))), (0, .ref (aM 0)), (1, .int x1), (2, .int x2)]) hx hb dX6_layCups_104 hl (k := 3) rfl (congrArg (fun z => x3 + z) k_iconst_1) (by decide) rfl (fun ls hl => ?_)
      refine lv_goto (tgt := 22) hx hb dX6_layCups_107 (by decide) ?_
      exact hrc vM x1 x2 (x3 + (1 : Int32)) h _ _ _ hP hD hS (lv_sub hl [1, 2, 3, 0] rfl)
    intro n
    induction n with
    | zero => intro vM x1 x2 x3 h; exact nomatch (show (none : Option (Ob × Int32)) = some out from h)
    | succ n hrc =>
      intro vM x1 x2 x3 h H locs ls hP hD hS hl
      have h : m_X6_layCups_L22B  (m_X6_layCups_L22  n) vM x1 x2 x3 = some out := h
      generalize m_X6_layCups_L22  n = rc at h hrc
      unfold m_X6_layCups_L22B at h
      refine lv_iload_n hx hb dX6_layCups_22 rfl (lv_at hl 3 rfl) ?_
      refine lv_aload_n hx hb dX6_layCups_23 rfl (lv_at hl 0 rfl) ?_
      refine va_get (D := G) (ci := 6) (v := .int (vM 0 8)) (C := RX6) (T := TX6) (N := 29) hx hb hts fi_X6_layCups_X6 hown hEN.1 hP 0 rfl rfl 8 (by decide) (hts (.fieldLink RX6 145 "HourWellModel" "swapMany" "I") (List.mem_of_getElem? (i := 2) rfl)) (fun _ h9 => h9) rfl dX6_layCups_24 ?_
      refine lv_icmp_ge (tgt := 110) hx hb dX6_layCups_27 (by decide) (fun c27 => ?_) (fun c27 => ?_)
      · have h := (if_pos c27).symm.trans h
        exact hKx _ (Option.some.inj h).symm _ _ _ hP hD hS (lv_sub hl [0, 1] rfl)
      · have h := (if_neg c27).symm.trans h
        refine lv_aload_n hx hb dX6_layCups_30 rfl (lv_at hl 0 rfl) ?_
        refine va_get (D := G) (ci := 6) (v := .ref (aM 8)) (C := RX6) (T := TX6) (N := 29) hx hb hts fi_X6_layCups_X6 hown hEN.1 hP 0 rfl rfl 7 (by decide) (hts (.fieldLink RX6 29 "HourWellModel" "swapped" "[I") (List.mem_of_getElem? (i := 3) rfl)) (fun _ h9 => h9) rfl dX6_layCups_31 ?_
        refine lv_iconst (v := (2 : Int32)) hx hb dX6_layCups_34 k_iconst_2 ?_
        refine lv_iload_n hx hb dX6_layCups_35 rfl (lv_at hl 3 rfl) ?_
        refine lv_imul hx hb dX6_layCups_36 ?_
        obtain ⟨hg37, h⟩ := grd_some h
        refine va_iald (f := (vM 8)) hx hb hEN.1 hP 7 0 rfl rfl (inb_in hg37) dX6_layCups_37 ?_
        refine lv_istore (lv' := [(4, .int ((vM 8) (Int32.toNatClampNeg ((2 : Int32) * x3)))), (0, .ref (aM 0)), (1, .int x1), (2, .int x2), (3, .int x3)]) hx hb dX6_layCups_38 hl (by decide) rfl (fun ls hl => ?_)
        refine lv_aload_n hx hb dX6_layCups_40 rfl (lv_at hl 1 rfl) ?_
        refine va_get (D := G) (ci := 6) (v := .ref (aM 8)) (C := RX6) (T := TX6) (N := 29) hx hb hts fi_X6_layCups_X6 hown hEN.1 hP 0 rfl rfl 7 (by decide) (hts (.fieldLink RX6 29 "HourWellModel" "swapped" "[I") (List.mem_of_getElem? (i := 3) rfl)) (fun _ h9 => h9) rfl dX6_layCups_41 ?_
        refine lv_iconst (v := (2 : Int32)) hx hb dX6_layCups_44 k_iconst_2 ?_
        refine lv_iload_n hx hb dX6_layCups_45 rfl (lv_at hl 4 rfl) ?_
        refine lv_imul hx hb dX6_layCups_46 ?_
        refine lv_iconst (v := (1 : Int32)) hx hb dX6_layCups_47 k_iconst_1 ?_
        refine lv_iadd hx hb dX6_layCups_48 ?_
        obtain ⟨hg49, h⟩ := grd_some h
        refine va_iald (f := (vM 8)) hx hb hEN.1 hP 7 0 rfl rfl (inb_in hg49) dX6_layCups_49 ?_
        refine lv_istore (lv' := [(5, .int ((vM 8) (Int32.toNatClampNeg (((2 : Int32) * x3) + (1 : Int32))))), (4, .int ((vM 8) (Int32.toNatClampNeg ((2 : Int32) * x3)))), (0, .ref (aM 0)), (1, .int x1), (2, .int x2), (3, .int x3)]) hx hb dX6_layCups_50 hl (by decide) rfl (fun ls hl => ?_)
        refine lv_iload_n hx hb dX6_layCups_52 rfl (lv_at hl 4 rfl) ?_
        refine lv_iload_n hx hb dX6_layCups_53 rfl (lv_at hl 5 rfl) ?_
        obtain ⟨o54, ho54, h⟩ := bnd_some h
        refine call_S0 (As := [.int x2, .int x3]) (rest := []) ⟨hx, hb, hml, hown, hts⟩ (c_X6_holds l G cI cZ  x2 x3 o54 ho54) (va_cwS 2 hts gX6_layCups_X6_holds rfl rfl rfl hdS_X6_holds ⟨Nat.le_of_ble_eq_true rfl, Nat.le_of_ble_eq_true rfl⟩) hEN hA hP hD hS [] rfl (by decide) rfl hl.1 rfl (Nat.le_of_ble_eq_true rfl) dX6_layCups_54 ⟨Nat.le_of_ble_eq_true rfl, Nat.le_of_ble_eq_true rfl⟩ (fun H locs hP hS => ?_)
        refine lv_if_eq (tgt := 104) hx hb dX6_layCups_57 (by decide) (fun c57 => ?_) (fun c57 => ?_)
        · have h := (if_pos c57).symm.trans h
          exact j104 rc hrc vM x1 x2 x3 h _ _ _ hP hD hS (lv_sub hl [2, 3, 4, 5] rfl)
        · have h := (if_neg c57).symm.trans h
          refine lv_iload hx hb dX6_layCups_60 (lv_at hl 1 rfl) ?_
          refine lv_iload_n hx hb dX6_layCups_62 rfl (lv_at hl 3 rfl) ?_
          refine lv_icmp_ge (tgt := 104) hx hb dX6_layCups_63 (by decide) (fun c63 => ?_) (fun c63 => ?_)
          · have h := (if_pos c63).symm.trans h
            exact j104 rc hrc vM x1 x2 x3 h _ _ _ hP hD hS (lv_sub hl [2, 3, 4, 5] rfl)
          · have h := (if_neg c63).symm.trans h
            refine lv_iload hx hb dX6_layCups_66 (lv_at hl 0 rfl) ?_
            refine lv_iload_n hx hb dX6_layCups_68 rfl (lv_at hl 3 rfl) ?_
            refine lv_icmp_ge (tgt := 104) hx hb dX6_layCups_69 (by decide) (fun c69 => ?_) (fun c69 => ?_)
            · have h := (if_pos c69).symm.trans h
              exact j104 rc hrc vM x1 x2 x3 h _ _ _ hP hD hS (lv_sub hl [2, 3, 4, 5] rfl)
            · have h := (if_neg c69).symm.trans h
              refine lv_aload_n hx hb dX6_layCups_72 rfl (lv_at hl 2 rfl) ?_
              refine va_get (D := G) (ci := 6) (v := .ref (aM 27)) (C := RX6) (T := TX6) (N := 29) hx hb hts fi_X6_layCups_X6 hown hEN.1 hP 0 rfl rfl 26 (by decide) (hts (.fieldLink RX6 50 "HourWellModel" "row" "[I") (List.mem_of_getElem? (i := 1) rfl)) (fun _ h9 => h9) rfl dX6_layCups_73 ?_
              refine lv_iload hx hb dX6_layCups_76 (lv_at hl 1 rfl) ?_
              obtain ⟨hg78, h⟩ := grd_some h
              refine va_iald (f := (vM 27)) hx hb hEN.1 hP 14 0 rfl rfl (inb_in hg78) dX6_layCups_78 ?_
              refine lv_istore (lv' := [(6, .int ((vM 27) (Int32.toNatClampNeg ((vM 8) (Int32.toNatClampNeg ((2 : Int32) * x3)))))), (5, .int ((vM 8) (Int32.toNatClampNeg (((2 : Int32) * x3) + (1 : Int32))))), (4, .int ((vM 8) (Int32.toNatClampNeg ((2 : Int32) * x3)))), (0, .ref (aM 0)), (1, .int x1), (2, .int x2), (3, .int x3)]) hx hb dX6_layCups_79 hl (by decide) rfl (fun ls hl => ?_)
              refine lv_aload_n hx hb dX6_layCups_81 rfl (lv_at hl 3 rfl) ?_
              refine va_get (D := G) (ci := 6) (v := .ref (aM 27)) (C := RX6) (T := TX6) (N := 29) hx hb hts fi_X6_layCups_X6 hown hEN.1 hP 0 rfl rfl 26 (by decide) (hts (.fieldLink RX6 50 "HourWellModel" "row" "[I") (List.mem_of_getElem? (i := 1) rfl)) (fun _ h9 => h9) rfl dX6_layCups_82 ?_
              refine lv_iload hx hb dX6_layCups_85 (lv_at hl 2 rfl) ?_
              refine lv_aload_n hx hb dX6_layCups_87 rfl (lv_at hl 3 rfl) ?_
              refine va_get (D := G) (ci := 6) (v := .ref (aM 27)) (C := RX6) (T := TX6) (N := 29) hx hb hts fi_X6_layCups_X6 hown hEN.1 hP 0 rfl rfl 26 (by decide) (hts (.fieldLink RX6 50 "HourWellModel" "row" "[I") (List.mem_of_getElem? (i := 1) rfl)) (fun _ h9 => h9) rfl dX6_layCups_88 ?_
              refine lv_iload hx hb dX6_layCups_91 (lv_at hl 1 rfl) ?_
              obtain ⟨hg93, h⟩ := grd_some h
              refine va_iald (f := (vM 27)) hx hb hEN.1 hP 14 0 rfl rfl (inb_in hg93) dX6_layCups_93 ?_
              obtain ⟨hg94, h⟩ := grd_some h
              refine va_iast (f := (vM 27)) hx hb hEN.1 hP hD hS 14 0 rfl rfl (inb_in hg94) dX6_layCups_94 (fun H locs hP hD hS => ?_)
              have hP : va_P G vwCl [oX6 aM vM vT, ai cI (aM 1) 70 (vM 1), ai cI (aM 2) 70 (vM 2), ai cI (aM 3) 40 (vM 3), ai cI (aM 4) 80 (vM 4), ai cZ (aM 5) 2 (vM 5), ai cI (aM 6) 200 (vM 6), ai cI (aM 8) 12 (vM 8), ai cI (aM 10) 12 (vM 10), ai cI (aM 18) 427 (vM 18), ai cI (aM 21) 100 (vM 21), ai cI (aM 23) 100 (vM 23), ai cI (aM 24) 100 (vM 24), ai cI (aM 26) 7 (vM 26), ai cI (aM 27) 5 (upd (vM 27) (Int32.toNatClampNeg ((vM 8) (Int32.toNatClampNeg ((2 : Int32) * x3)))) ((vM 27) (Int32.toNatClampNeg ((vM 8) (Int32.toNatClampNeg (((2 : Int32) * x3) + (1 : Int32))))))), ai cI (aM 28) 64 (vM 28)] H := hP
              have hD : va_D A [oX6 aM vM vT, ai cI (aM 1) 70 (vM 1), ai cI (aM 2) 70 (vM 2), ai cI (aM 3) 40 (vM 3), ai cI (aM 4) 80 (vM 4), ai cZ (aM 5) 2 (vM 5), ai cI (aM 6) 200 (vM 6), ai cI (aM 8) 12 (vM 8), ai cI (aM 10) 12 (vM 10), ai cI (aM 18) 427 (vM 18), ai cI (aM 21) 100 (vM 21), ai cI (aM 23) 100 (vM 23), ai cI (aM 24) 100 (vM 24), ai cI (aM 26) 7 (vM 26), ai cI (aM 27) 5 (upd (vM 27) (Int32.toNatClampNeg ((vM 8) (Int32.toNatClampNeg ((2 : Int32) * x3)))) ((vM 27) (Int32.toNatClampNeg ((vM 8) (Int32.toNatClampNeg (((2 : Int32) * x3) + (1 : Int32))))))), ai cI (aM 28) 64 (vM 28)] := hD
              refine lv_aload_n hx hb dX6_layCups_95 rfl (lv_at hl 3 rfl) ?_
              refine va_get (D := G) (ci := 6) (v := .ref (aM 27)) (C := RX6) (T := TX6) (N := 29) hx hb hts fi_X6_layCups_X6 hown hEN.1 hP 0 rfl rfl 26 (by decide) (hts (.fieldLink RX6 50 "HourWellModel" "row" "[I") (List.mem_of_getElem? (i := 1) rfl)) (fun _ h9 => h9) rfl dX6_layCups_96 ?_
              refine lv_iload hx hb dX6_layCups_99 (lv_at hl 1 rfl) ?_
              refine lv_iload hx hb dX6_layCups_101 (lv_at hl 0 rfl) ?_
              obtain ⟨hg103, h⟩ := grd_some h
              refine va_iast (f := (upd (vM 27) (Int32.toNatClampNeg ((vM 8) (Int32.toNatClampNeg ((2 : Int32) * x3)))) ((vM 27) (Int32.toNatClampNeg ((vM 8) (Int32.toNatClampNeg (((2 : Int32) * x3) + (1 : Int32)))))))) hx hb hEN.1 hP hD hS 14 0 rfl rfl (inb_in hg103) dX6_layCups_103 (fun H locs hP hD hS => ?_)
              have hP : va_P G vwCl [oX6 aM vM vT, ai cI (aM 1) 70 (vM 1), ai cI (aM 2) 70 (vM 2), ai cI (aM 3) 40 (vM 3), ai cI (aM 4) 80 (vM 4), ai cZ (aM 5) 2 (vM 5), ai cI (aM 6) 200 (vM 6), ai cI (aM 8) 12 (vM 8), ai cI (aM 10) 12 (vM 10), ai cI (aM 18) 427 (vM 18), ai cI (aM 21) 100 (vM 21), ai cI (aM 23) 100 (vM 23), ai cI (aM 24) 100 (vM 24), ai cI (aM 26) 7 (vM 26), ai cI (aM 27) 5 (upd (upd (vM 27) (Int32.toNatClampNeg ((vM 8) (Int32.toNatClampNeg ((2 : Int32) * x3)))) ((vM 27) (Int32.toNatClampNeg ((vM 8) (Int32.toNatClampNeg (((2 : Int32) * x3) + (1 : Int32))))))) (Int32.toNatClampNeg ((vM 8) (Int32.toNatClampNeg (((2 : Int32) * x3) + (1 : Int32))))) ((vM 27) (Int32.toNatClampNeg ((vM 8) (Int32.toNatClampNeg ((2 : Int32) * x3)))))), ai cI (aM 28) 64 (vM 28)] H := hP
              have hD : va_D A [oX6 aM vM vT, ai cI (aM 1) 70 (vM 1), ai cI (aM 2) 70 (vM 2), ai cI (aM 3) 40 (vM 3), ai cI (aM 4) 80 (vM 4), ai cZ (aM 5) 2 (vM 5), ai cI (aM 6) 200 (vM 6), ai cI (aM 8) 12 (vM 8), ai cI (aM 10) 12 (vM 10), ai cI (aM 18) 427 (vM 18), ai cI (aM 21) 100 (vM 21), ai cI (aM 23) 100 (vM 23), ai cI (aM 24) 100 (vM 24), ai cI (aM 26) 7 (vM 26), ai cI (aM 27) 5 (upd (upd (vM 27) (Int32.toNatClampNeg ((vM 8) (Int32.toNatClampNeg ((2 : Int32) * x3)))) ((vM 27) (Int32.toNatClampNeg ((vM 8) (Int32.toNatClampNeg (((2 : Int32) * x3) + (1 : Int32))))))) (Int32.toNatClampNeg ((vM 8) (Int32.toNatClampNeg (((2 : Int32) * x3) + (1 : Int32))))) ((vM 27) (Int32.toNatClampNeg ((vM 8) (Int32.toNatClampNeg ((2 : Int32) * x3)))))), ai cI (aM 28) 64 (vM 28)] := hD
              exact j104 rc hrc (st (st vM 27 (Int32.toNatClampNeg ((vM 8) (Int32.toNatClampNeg ((2 : Int32) * x3)))) ((vM 27) (Int32.toNatClampNeg ((vM 8) (Int32.toNatClampNeg (((2 : Int32) * x3) + (1 : Int32))))))) 27 (Int32.toNatClampNeg ((vM 8) (Int32.toNatClampNeg (((2 : Int32) * x3) + (1 : Int32))))) ((vM 27) (Int32.toNatClampNeg ((vM 8) (Int32.toNatClampNeg ((2 : Int32) * x3)))))) x1 x2 x3 h _ _ _ hP hD hS (lv_sub hl [3, 4, 5, 6] rfl)
  have L115 : ∀ (out : Ob × Int32), (∀ ex : Ob × Int32, out = ex → ∀ (H : Heap) (locs : List Loc) (ls : Array Slot), va_P G vwCl [oX6 aM ex.1 vT, ai cI (aM 1) 70 (ex.1 1), ai cI (aM 2) 70 (ex.1 2), ai cI (aM 3) 40 (ex.1 3), ai cI (aM 4) 80 (ex.1 4), ai cZ (aM 5) 2 (ex.1 5), ai cI (aM 6) 200 (ex.1 6), ai cI (aM 8) 12 (ex.1 8), ai cI (aM 10) 12 (ex.1 10), ai cI (aM 18) 427 (ex.1 18), ai cI (aM 21) 100 (ex.1 21), ai cI (aM 23) 100 (ex.1 23), ai cI (aM 24) 100 (ex.1 24), ai cI (aM 26) 7 (ex.1 26), ai cI (aM 27) 5 (ex.1 27), ai cI (aM 28) 64 (ex.1 28)] H → va_D A [oX6 aM ex.1 vT, ai cI (aM 1) 70 (ex.1 1), ai cI (aM 2) 70 (ex.1 2), ai cI (aM 3) 40 (ex.1 3), ai cI (aM 4) 80 (ex.1 4), ai cZ (aM 5) 2 (ex.1 5), ai cI (aM 6) 200 (ex.1 6), ai cI (aM 8) 12 (ex.1 8), ai cI (aM 10) 12 (ex.1 10), ai cI (aM 18) 427 (ex.1 18), ai cI (aM 21) 100 (ex.1 21), ai cI (aM 23) 100 (ex.1 23), ai cI (aM 24) 100 (ex.1 24), ai cI (aM 26) 7 (ex.1 26), ai cI (aM 27) 5 (ex.1 27), ai cI (aM 28) 64 (ex.1 28)] → va_S A s.heap H locs → lv_has ls 7 [(3, .int ex.2)] → W p l e rm_X6_layCups s m args below meth c H locs 0 0 Q (F0 m 181 ls [])) → ∀ (n : Nat) (vM : Ob) (x1 : Int32) (x3 : Int32) (x4 : Int32), m_X6_layCups_L115  n vM x1 x3 x4 = some out → ∀ (H : Heap) (locs : List Loc) (ls : Array Slot), va_P G vwCl [oX6 aM vM vT, ai cI (aM 1) 70 (vM 1), ai cI (aM 2) 70 (vM 2), ai cI (aM 3) 40 (vM 3), ai cI (aM 4) 80 (vM 4), ai cZ (aM 5) 2 (vM 5), ai cI (aM 6) 200 (vM 6), ai cI (aM 8) 12 (vM 8), ai cI (aM 10) 12 (vM 10), ai cI (aM 18) 427 (vM 18), ai cI (aM 21) 100 (vM 21), ai cI (aM 23) 100 (vM 23), ai cI (aM 24) 100 (vM 24), ai cI (aM 26) 7 (vM 26), ai cI (aM 27) 5 (vM 27), ai cI (aM 28) 64 (vM 28)] H → va_D A [oX6 aM vM vT, ai cI (aM 1) 70 (vM 1), ai cI (aM 2) 70 (vM 2), ai cI (aM 3) 40 (vM 3), ai cI (aM 4) 80 (vM 4), ai cZ (aM 5) 2 (vM 5), ai cI (aM 6) 200 (vM 6), ai cI (aM 8) 12 (vM 8), ai cI (aM 10) 12 (vM 10), ai cI (aM 18) 427 (vM 18), ai cI (aM 21) 100 (vM 21), ai cI (aM 23) 100 (vM 23), ai cI (aM 24) 100 (vM 24), ai cI (aM 26) 7 (vM 26), ai cI (aM 27) 5 (vM 27), ai cI (aM 28) 64 (vM 28)] → va_S A s.heap H locs → lv_has ls 7 [(0, .ref (aM 0)), (1, .int x1), (3, .int x3), (4, .int x4)] → W p l e rm_X6_layCups s m args below meth c H locs 0 0 Q (F0 m 115 ls []) := by
    intro out hKx
    have j174 : ∀ (rc : Ob → Int32 → Int32 → Int32 → Option (Ob × Int32)), (∀ (vM : Ob) (x1 : Int32) (x3 : Int32) (x4 : Int32), rc vM x1 x3 x4 = some out → ∀ (H : Heap) (locs : List Loc) (ls : Array Slot), va_P G vwCl [oX6 aM vM vT, ai cI (aM 1) 70 (vM 1), ai cI (aM 2) 70 (vM 2), ai cI (aM 3) 40 (vM 3), ai cI (aM 4) 80 (vM 4), ai cZ (aM 5) 2 (vM 5), ai cI (aM 6) 200 (vM 6), ai cI (aM 8) 12 (vM 8), ai cI (aM 10) 12 (vM 10), ai cI (aM 18) 427 (vM 18), ai cI (aM 21) 100 (vM 21), ai cI (aM 23) 100 (vM 23), ai cI (aM 24) 100 (vM 24), ai cI (aM 26) 7 (vM 26), ai cI (aM 27) 5 (vM 27), ai cI (aM 28) 64 (vM 28)] H → va_D A [oX6 aM vM vT, ai cI (aM 1) 70 (vM 1), ai cI (aM 2) 70 (vM 2), ai cI (aM 3) 40 (vM 3), ai cI (aM 4) 80 (vM 4), ai cZ (aM 5) 2 (vM 5), ai cI (aM 6) 200 (vM 6), ai cI (aM 8) 12 (vM 8), ai cI (aM 10) 12 (vM 10), ai cI (aM 18) 427 (vM 18), ai cI (aM 21) 100 (vM 21), ai cI (aM 23) 100 (vM 23), ai cI (aM 24) 100 (vM 24), ai cI (aM 26) 7 (vM 26), ai cI (aM 27) 5 (vM 27), ai cI (aM 28) 64 (vM 28)] → va_S A s.heap H locs → lv_has ls 7 [(0, .ref (aM 0)), (1, .int x1), (3, .int x3), (4, .int x4)] → W p l e rm_X6_layCups s m args below meth c H locs 0 0 Q (F0 m 115 ls [])) → ∀ (vM : Ob) (x1 : Int32) (x4 : Int32) (s0 : Int32), m_X6_layCups_j174  rc vM x1 x4 s0 = some out → ∀ (H : Heap) (locs : List Loc) (ls : Array Slot), va_P G vwCl [oX6 aM vM vT, ai cI (aM 1) 70 (vM 1), ai cI (aM 2) 70 (vM 2), ai cI (aM 3) 40 (vM 3), ai cI (aM 4) 80 (vM 4), ai cZ (aM 5) 2 (vM 5), ai cI (aM 6) 200 (vM 6), ai cI (aM 8) 12 (vM 8), ai cI (aM 10) 12 (vM 10), ai cI (aM 18) 427 (vM 18), ai cI (aM 21) 100 (vM 21), ai cI (aM 23) 100 (vM 23), ai cI (aM 24) 100 (vM 24), ai cI (aM 26) 7 (vM 26), ai cI (aM 27) 5 (vM 27), ai cI (aM 28) 64 (vM 28)] H → va_D A [oX6 aM vM vT, ai cI (aM 1) 70 (vM 1), ai cI (aM 2) 70 (vM 2), ai cI (aM 3) 40 (vM 3), ai cI (aM 4) 80 (vM 4), ai cZ (aM 5) 2 (vM 5), ai cI (aM 6) 200 (vM 6), ai cI (aM 8) 12 (vM 8), ai cI (aM 10) 12 (vM 10), ai cI (aM 18) 427 (vM 18), ai cI (aM 21) 100 (vM 21), ai cI (aM 23) 100 (vM 23), ai cI (aM 24) 100 (vM 24), ai cI (aM 26) 7 (vM 26), ai cI (aM 27) 5 (vM 27), ai cI (aM 28) 64 (vM 28)] → va_S A s.heap H locs → lv_has ls 7 [(0, .ref (aM 0)), (1, .int x1), (4, .int x4)] → W p l e rm_X6_layCups s m args below meth c H locs 0 0 Q (F0 m 174 ls [.int s0]) := by
      intro rc hrc vM x1 x4 s0 h H locs ls hP hD hS hl
      unfold m_X6_layCups_j174 at h
      refine lv_istore_n (lv' := [(3, .int s0), (0, .ref (aM 0)), (1, .int x1), (4, .int x4)]) hx hb dX6_layCups_174 rfl hl (by decide) rfl (fun ls hl => ?_)
      refine lv_iinc (v := (x4 + (1 : Int32))) (lv' := [(4, .int (x4 + (1 : Int32))), (3, .int s0), (0, .ref (aM 0)), (1, .int x1)]) hx hb dX6_layCups_175 hl (k := 3) rfl (congrArg (fun z => x4 + z) k_iconst_1) (by decide) rfl (fun ls hl => ?_)
      refine lv_goto (tgt := 115) hx hb dX6_layCups_178 (by decide) ?_
      exact hrc vM x1 s0 (x4 + (1 : Int32)) h _ _ _ hP hD hS (lv_sub hl [2, 3, 1, 0] rfl)
    have j173 : ∀ (rc : Ob → Int32 → Int32 → Int32 → Option (Ob × Int32)), (∀ (vM : Ob) (x1 : Int32) (x3 : Int32) (x4 : Int32), rc vM x1 x3 x4 = some out → ∀ (H : Heap) (locs : List Loc) (ls : Array Slot), va_P G vwCl [oX6 aM vM vT, ai cI (aM 1) 70 (vM 1), ai cI (aM 2) 70 (vM 2), ai cI (aM 3) 40 (vM 3), ai cI (aM 4) 80 (vM 4), ai cZ (aM 5) 2 (vM 5), ai cI (aM 6) 200 (vM 6), ai cI (aM 8) 12 (vM 8), ai cI (aM 10) 12 (vM 10), ai cI (aM 18) 427 (vM 18), ai cI (aM 21) 100 (vM 21), ai cI (aM 23) 100 (vM 23), ai cI (aM 24) 100 (vM 24), ai cI (aM 26) 7 (vM 26), ai cI (aM 27) 5 (vM 27), ai cI (aM 28) 64 (vM 28)] H → va_D A [oX6 aM vM vT, ai cI (aM 1) 70 (vM 1), ai cI (aM 2) 70 (vM 2), ai cI (aM 3) 40 (vM 3), ai cI (aM 4) 80 (vM 4), ai cZ (aM 5) 2 (vM 5), ai cI (aM 6) 200 (vM 6), ai cI (aM 8) 12 (vM 8), ai cI (aM 10) 12 (vM 10), ai cI (aM 18) 427 (vM 18), ai cI (aM 21) 100 (vM 21), ai cI (aM 23) 100 (vM 23), ai cI (aM 24) 100 (vM 24), ai cI (aM 26) 7 (vM 26), ai cI (aM 27) 5 (vM 27), ai cI (aM 28) 64 (vM 28)] → va_S A s.heap H locs → lv_has ls 7 [(0, .ref (aM 0)), (1, .int x1), (3, .int x3), (4, .int x4)] → W p l e rm_X6_layCups s m args below meth c H locs 0 0 Q (F0 m 115 ls [])) → ∀ (vM : Ob) (x1 : Int32) (x4 : Int32), m_X6_layCups_j173  rc vM x1 x4 = some out → ∀ (H : Heap) (locs : List Loc) (ls : Array Slot), va_P G vwCl [oX6 aM vM vT, ai cI (aM 1) 70 (vM 1), ai cI (aM 2) 70 (vM 2), ai cI (aM 3) 40 (vM 3), ai cI (aM 4) 80 (vM 4), ai cZ (aM 5) 2 (vM 5), ai cI (aM 6) 200 (vM 6), ai cI (aM 8) 12 (vM 8), ai cI (aM 10) 12 (vM 10), ai cI (aM 18) 427 (vM 18), ai cI (aM 21) 100 (vM 21), ai cI (aM 23) 100 (vM 23), ai cI (aM 24) 100 (vM 24), ai cI (aM 26) 7 (vM 26), ai cI (aM 27) 5 (vM 27), ai cI (aM 28) 64 (vM 28)] H → va_D A [oX6 aM vM vT, ai cI (aM 1) 70 (vM 1), ai cI (aM 2) 70 (vM 2), ai cI (aM 3) 40 (vM 3), ai cI (aM 4) 80 (vM 4), ai cZ (aM 5) 2 (vM 5), ai cI (aM 6) 200 (vM 6), ai cI (aM 8) 12 (vM 8), ai cI (aM 10) 12 (vM 10), ai cI (aM 18) 427 (vM 18), ai cI (aM 21) 100 (vM 21), ai cI (aM 23) 100 (vM 23), ai cI (aM 24) 100 (vM 24), ai cI (aM 26) 7 (vM 26), ai cI (aM 27) 5 (vM 27), ai cI (aM 28) 64 (vM 28)] → va_S A s.heap H locs → lv_has ls 7 [(0, .ref (aM 0)), (1, .int x1), (4, .int x4)] → W p l e rm_X6_layCups s m args below meth c H locs 0 0 Q (F0 m 173 ls []) := by
      intro rc hrc vM x1 x4 h H locs ls hP hD hS hl
      unfold m_X6_layCups_j173 at h
      refine lv_iconst (v := (0 : Int32)) hx hb dX6_layCups_173 k_iconst_0 ?_
      exact j174 rc hrc vM x1 x4 (0 : Int32) h _ _ _ hP hD hS (lv_sub hl [0, 1, 2] rfl)
    intro n
    induction n with
    | zero => intro vM x1 x3 x4 h; exact nomatch (show (none : Option (Ob × Int32)) = some out from h)
    | succ n hrc =>
      intro vM x1 x3 x4 h H locs ls hP hD hS hl
      have h : m_X6_layCups_L115B  (m_X6_layCups_L115  n) vM x1 x3 x4 = some out := h
      generalize m_X6_layCups_L115  n = rc at h hrc
      unfold m_X6_layCups_L115B at h
      refine lv_iload hx hb dX6_layCups_115 (lv_at hl 3 rfl) ?_
      refine lv_aload_n hx hb dX6_layCups_117 rfl (lv_at hl 0 rfl) ?_
      refine va_get (D := G) (ci := 6) (v := .int (vM 0 10)) (C := RX6) (T := TX6) (N := 29) hx hb hts fi_X6_layCups_X6 hown hEN.1 hP 0 rfl rfl 10 (by decide) (hts (.fieldLink RX6 148 "HourWellModel" "tasteMany" "I") (List.mem_of_getElem? (i := 4) rfl)) (fun _ h9 => h9) rfl dX6_layCups_118 ?_
      refine lv_icmp_ge (tgt := 181) hx hb dX6_layCups_121 (by decide) (fun c121 => ?_) (fun c121 => ?_)
      · have h := (if_pos c121).symm.trans h
        exact hKx _ (Option.some.inj h).symm _ _ _ hP hD hS (lv_sub hl [2] rfl)
      · have h := (if_neg c121).symm.trans h
        refine lv_iload_n hx hb dX6_layCups_124 rfl (lv_at hl 2 rfl) ?_
        refine lv_if_eq (tgt := 173) hx hb dX6_layCups_125 (by decide) (fun c125 => ?_) (fun c125 => ?_)
        · have h := (if_pos c125).symm.trans h
          exact j173 rc hrc vM x1 x4 h _ _ _ hP hD hS (lv_sub hl [0, 1, 3] rfl)
        · have h := (if_neg c125).symm.trans h
          refine lv_aload_n hx hb dX6_layCups_128 rfl (lv_at hl 0 rfl) ?_
          refine va_get (D := G) (ci := 6) (v := .ref (aM 10)) (C := RX6) (T := TX6) (N := 29) hx hb hts fi_X6_layCups_X6 hown hEN.1 hP 0 rfl rfl 9 (by decide) (hts (.fieldLink RX6 32 "HourWellModel" "tasted" "[I") (List.mem_of_getElem? (i := 5) rfl)) (fun _ h9 => h9) rfl dX6_layCups_129 ?_
          refine lv_iconst (v := (2 : Int32)) hx hb dX6_layCups_132 k_iconst_2 ?_
          refine lv_iload hx hb dX6_layCups_133 (lv_at hl 3 rfl) ?_
          refine lv_imul hx hb dX6_layCups_135 ?_
          obtain ⟨hg136, h⟩ := grd_some h
          refine va_iald (f := (vM 10)) hx hb hEN.1 hP 8 0 rfl rfl (inb_in hg136) dX6_layCups_136 ?_
          refine lv_iload_n hx hb dX6_layCups_137 rfl (lv_at hl 1 rfl) ?_
          refine lv_icmp_ge (tgt := 173) hx hb dX6_layCups_138 (by decide) (fun c138 => ?_) (fun c138 => ?_)
          · have h := (if_pos c138).symm.trans h
            exact j173 rc hrc vM x1 x4 h _ _ _ hP hD hS (lv_sub hl [0, 1, 3] rfl)
          · have h := (if_neg c138).symm.trans h
            refine lv_aload_n hx hb dX6_layCups_141 rfl (lv_at hl 0 rfl) ?_
            refine va_get (D := G) (ci := 6) (v := .ref (aM 27)) (C := RX6) (T := TX6) (N := 29) hx hb hts fi_X6_layCups_X6 hown hEN.1 hP 0 rfl rfl 26 (by decide) (hts (.fieldLink RX6 50 "HourWellModel" "row" "[I") (List.mem_of_getElem? (i := 1) rfl)) (fun _ h9 => h9) rfl dX6_layCups_142 ?_
            refine lv_aload_n hx hb dX6_layCups_145 rfl (lv_at hl 0 rfl) ?_
            refine va_get (D := G) (ci := 6) (v := .ref (aM 10)) (C := RX6) (T := TX6) (N := 29) hx hb hts fi_X6_layCups_X6 hown hEN.1 hP 0 rfl rfl 9 (by decide) (hts (.fieldLink RX6 32 "HourWellModel" "tasted" "[I") (List.mem_of_getElem? (i := 5) rfl)) (fun _ h9 => h9) rfl dX6_layCups_146 ?_
            refine lv_iconst (v := (2 : Int32)) hx hb dX6_layCups_149 k_iconst_2 ?_
            refine lv_iload hx hb dX6_layCups_150 (lv_at hl 3 rfl) ?_
            refine lv_imul hx hb dX6_layCups_152 ?_
            obtain ⟨hg153, h⟩ := grd_some h
            refine va_iald (f := (vM 10)) hx hb hEN.1 hP 8 0 rfl rfl (inb_in hg153) dX6_layCups_153 ?_
            obtain ⟨hg154, h⟩ := grd_some h
            refine va_iald (f := (vM 27)) hx hb hEN.1 hP 14 0 rfl rfl (inb_in hg154) dX6_layCups_154 ?_
            refine lv_aload_n hx hb dX6_layCups_155 rfl (lv_at hl 0 rfl) ?_
            refine va_get (D := G) (ci := 6) (v := .ref (aM 10)) (C := RX6) (T := TX6) (N := 29) hx hb hts fi_X6_layCups_X6 hown hEN.1 hP 0 rfl rfl 9 (by decide) (hts (.fieldLink RX6 32 "HourWellModel" "tasted" "[I") (List.mem_of_getElem? (i := 5) rfl)) (fun _ h9 => h9) rfl dX6_layCups_156 ?_
            refine lv_iconst (v := (2 : Int32)) hx hb dX6_layCups_159 k_iconst_2 ?_
            refine lv_iload hx hb dX6_layCups_160 (lv_at hl 3 rfl) ?_
            refine lv_imul hx hb dX6_layCups_162 ?_
            refine lv_iconst (v := (1 : Int32)) hx hb dX6_layCups_163 k_iconst_1 ?_
            refine lv_iadd hx hb dX6_layCups_164 ?_
            obtain ⟨hg165, h⟩ := grd_some h
            refine va_iald (f := (vM 10)) hx hb hEN.1 hP 8 0 rfl rfl (inb_in hg165) dX6_layCups_165 ?_
            refine lv_icmp_ne (tgt := 173) hx hb dX6_layCups_166 (by decide) (fun c166 => ?_) (fun c166 => ?_)
            · have h := (if_neg c166).symm.trans h
              exact j173 rc hrc vM x1 x4 h _ _ _ hP hD hS (lv_sub hl [0, 1, 3] rfl)
            · have h := (if_pos c166).symm.trans h
              refine lv_iconst (v := (1 : Int32)) hx hb dX6_layCups_169 k_iconst_1 ?_
              refine lv_goto (tgt := 174) hx hb dX6_layCups_170 (by decide) ?_
              exact j174 rc hrc vM x1 x4 (1 : Int32) h _ _ _ hP hD hS (lv_sub hl [0, 1, 3] rfl)
  unfold m_X6_layCups at h
  refine lv_iconst (v := (0 : Int32)) hx hb dX6_layCups_0 k_iconst_0 ?_
  refine lv_istore_n (lv' := [(3, .int (0 : Int32)), (0, .ref (aM 0)), (1, .int x1), (2, .int x2)]) hx hb dX6_layCups_1 rfl hl (by decide) rfl (fun ls hl => ?_)
  obtain ⟨o2_1, ho2_1, h⟩ := bnd_some h
  refine L2 o2_1 (fun o2_1e er H locs ls hP hD hS hl => ?_) FU vM x1 x2 (0 : Int32) ho2_1 _ _ _ hP hD hS (lv_sub hl [1, 2, 3, 0] rfl)
  subst er
  refine lv_iconst (v := (0 : Int32)) hx hb dX6_layCups_20 k_iconst_0 ?_
  refine lv_istore_n (lv' := [(3, .int (0 : Int32)), (0, .ref (aM 0)), (1, .int o2_1.2.1), (2, .int o2_1.2.2)]) hx hb dX6_layCups_21 rfl hl (by decide) rfl (fun ls hl => ?_)
  obtain ⟨o22_2, ho22_2, h⟩ := bnd_some h
  refine L22 o22_2 (fun o22_2e er H locs ls hP hD hS hl => ?_) FU o2_1.1 o2_1.2.1 o2_1.2.2 (0 : Int32) ho22_2 _ _ _ hP hD hS (lv_sub hl [1, 2, 3, 0] rfl)
  subst er
  refine lv_iconst (v := (1 : Int32)) hx hb dX6_layCups_110 k_iconst_1 ?_
  refine lv_istore_n (lv' := [(3, .int (1 : Int32)), (0, .ref (aM 0)), (1, .int o22_2.2)]) hx hb dX6_layCups_111 rfl hl (by decide) rfl (fun ls hl => ?_)
  refine lv_iconst (v := (0 : Int32)) hx hb dX6_layCups_112 k_iconst_0 ?_
  refine lv_istore (lv' := [(4, .int (0 : Int32)), (3, .int (1 : Int32)), (0, .ref (aM 0)), (1, .int o22_2.2)]) hx hb dX6_layCups_113 hl (by decide) rfl (fun ls hl => ?_)
  obtain ⟨o115_3, ho115_3, h⟩ := bnd_some h
  refine L115 o115_3 (fun o115_3e er H locs ls hP hD hS hl => ?_) FU o22_2.1 o22_2.2 (1 : Int32) (0 : Int32) ho115_3 _ _ _ hP hD hS (lv_sub hl [2, 3, 1, 0] rfl)
  subst er
  refine lv_iload_n hx hb dX6_layCups_181 rfl (lv_at hl 0 rfl) ?_
  obtain ⟨hg182, h⟩ := grd_some h
  have hres := Option.some.inj h
  subst hres
  exact hRet 182 (bz_n hg182) _ _ _ hP hD hS dX6_layCups_182
abbrev rm_X6_layRows : Room := { frames := 2, cells := 0, slots := 0, locals := 47 }
theorem fi_X6_layRows_X6 : ∀ w ∈ wsX60, w ∈ wsX6_layRows := fun _ h => List.mem_cons_of_mem _ (List.mem_append_right _ h)
theorem hdV_X6_layRows : yX6_layRows.cls = RX6 ∧ yX6_layRows.cls ≠ "java/lang/invoke/MethodHandle" ∧ yX6_layRows.cls ≠ "java/lang/invoke/VarHandle" ∧ (parseMethodDescriptor yX6_layRows.desc).map (fun d => d.parameters.length) = some 1 := by decide +kernel
set_option maxRecDepth 100000 in
set_option maxHeartbeats 4000000 in
theorem c_X6_layRows (l : Launch) (G : va_G) (cI cZ : ClassId) (aM : Nat → Nat) (vT : Int64) (vM : Ob) (x1 : Int32) (res : Ob) (h : m_X6_layRows vM x1 = some res) : Ct l yX6_layRows wsX6_layRows rm_X6_layRows G cI cZ [.ref (aM 0), .int x1] [oX6 aM vM vT, ai cI (aM 1) 70 (vM 1), ai cI (aM 2) 70 (vM 2), ai cI (aM 3) 40 (vM 3), ai cI (aM 4) 80 (vM 4), ai cZ (aM 5) 2 (vM 5), ai cI (aM 6) 200 (vM 6), ai cI (aM 8) 12 (vM 8), ai cI (aM 10) 12 (vM 10), ai cI (aM 18) 427 (vM 18), ai cI (aM 21) 100 (vM 21), ai cI (aM 23) 100 (vM 23), ai cI (aM 24) 100 (vM 24), ai cI (aM 26) 7 (vM 26), ai cI (aM 27) 5 (vM 27), ai cI (aM 28) 64 (vM 28)] none [oX6 aM res vT, ai cI (aM 1) 70 (res 1), ai cI (aM 2) 70 (res 2), ai cI (aM 3) 40 (res 3), ai cI (aM 4) 80 (res 4), ai cZ (aM 5) 2 (res 5), ai cI (aM 6) 200 (res 6), ai cI (aM 8) 12 (res 8), ai cI (aM 10) 12 (res 10), ai cI (aM 18) 427 (res 18), ai cI (aM 21) 100 (res 21), ai cI (aM 23) 100 (res 23), ai cI (aM 24) 100 (res 24), ai cI (aM 26) 7 (res 26), ai cI (aM 27) 5 (res 27), ai cI (aM 28) 64 (res 28)] := by
  refine Ct.of_v (maxL := 6) (by decide) rfl (Nat.le_of_ble_eq_true rfl) ?_
  intro p e s m below meth c args hx hb hml hown hts A hA hEN hP hD hS Q hRet ls hl
  have hown : s.vm.findClass RX6 = some m.cls := hown
  have hl : lv_has ls 6 [(0, .ref (aM 0)), (1, .int x1)] := hl
  have L32 : ∀ (out : Ob × Int32 × Int32 × Int32 × Int32), (∀ ex : Ob × Int32 × Int32 × Int32 × Int32, out = ex → ∀ (H : Heap) (locs : List Loc) (ls : Array Slot), va_P G vwCl [oX6 aM ex.1 vT, ai cI (aM 1) 70 (ex.1 1), ai cI (aM 2) 70 (ex.1 2), ai cI (aM 3) 40 (ex.1 3), ai cI (aM 4) 80 (ex.1 4), ai cZ (aM 5) 2 (ex.1 5), ai cI (aM 6) 200 (ex.1 6), ai cI (aM 8) 12 (ex.1 8), ai cI (aM 10) 12 (ex.1 10), ai cI (aM 18) 427 (ex.1 18), ai cI (aM 21) 100 (ex.1 21), ai cI (aM 23) 100 (ex.1 23), ai cI (aM 24) 100 (ex.1 24), ai cI (aM 26) 7 (ex.1 26), ai cI (aM 27) 5 (ex.1 27), ai cI (aM 28) 64 (ex.1 28)] H → va_D A [oX6 aM ex.1 vT, ai cI (aM 1) 70 (ex.1 1), ai cI (aM 2) 70 (ex.1 2), ai cI (aM 3) 40 (ex.1 3), ai cI (aM 4) 80 (ex.1 4), ai cZ (aM 5) 2 (ex.1 5), ai cI (aM 6) 200 (ex.1 6), ai cI (aM 8) 12 (ex.1 8), ai cI (aM 10) 12 (ex.1 10), ai cI (aM 18) 427 (ex.1 18), ai cI (aM 21) 100 (ex.1 21), ai cI (aM 23) 100 (ex.1 23), ai cI (aM 24) 100 (ex.1 24), ai cI (aM 26) 7 (ex.1 26), ai cI (aM 27) 5 (ex.1 27), ai cI (aM 28) 64 (ex.1 28)] → va_S A s.heap H locs → lv_has ls 6 [(0, .ref (aM 0)), (1, .int ex.2.1), (2, .int ex.2.2.1), (3, .int ex.2.2.2.1), (4, .int ex.2.2.2.2)] → W p l e rm_X6_layRows s m args below meth c H locs 0 0 Q (F0 m 58 ls [])) → ∀ (n : Nat) (vM : Ob) (x1 : Int32) (x2 : Int32) (x3 : Int32) (x4 : Int32) (x5 : Int32), m_X6_layRows_L32  n vM x1 x2 x3 x4 x5 = some out → ∀ (H : Heap) (locs : List Loc) (ls : Array Slot), va_P G vwCl [oX6 aM vM vT, ai cI (aM 1) 70 (vM 1), ai cI (aM 2) 70 (vM 2), ai cI (aM 3) 40 (vM 3), ai cI (aM 4) 80 (vM 4), ai cZ (aM 5) 2 (vM 5), ai cI (aM 6) 200 (vM 6), ai cI (aM 8) 12 (vM 8), ai cI (aM 10) 12 (vM 10), ai cI (aM 18) 427 (vM 18), ai cI (aM 21) 100 (vM 21), ai cI (aM 23) 100 (vM 23), ai cI (aM 24) 100 (vM 24), ai cI (aM 26) 7 (vM 26), ai cI (aM 27) 5 (vM 27), ai cI (aM 28) 64 (vM 28)] H → va_D A [oX6 aM vM vT, ai cI (aM 1) 70 (vM 1), ai cI (aM 2) 70 (vM 2), ai cI (aM 3) 40 (vM 3), ai cI (aM 4) 80 (vM 4), ai cZ (aM 5) 2 (vM 5), ai cI (aM 6) 200 (vM 6), ai cI (aM 8) 12 (vM 8), ai cI (aM 10) 12 (vM 10), ai cI (aM 18) 427 (vM 18), ai cI (aM 21) 100 (vM 21), ai cI (aM 23) 100 (vM 23), ai cI (aM 24) 100 (vM 24), ai cI (aM 26) 7 (vM 26), ai cI (aM 27) 5 (vM 27), ai cI (aM 28) 64 (vM 28)] → va_S A s.heap H locs → lv_has ls 6 [(0, .ref (aM 0)), (1, .int x1), (2, .int x2), (3, .int x3), (4, .int x4), (5, .int x5)] → W p l e rm_X6_layRows s m args below meth c H locs 0 0 Q (F0 m 32 ls []) := by
    intro out hKx
    intro n
    induction n with
    | zero => intro vM x1 x2 x3 x4 x5 h; exact nomatch (show (none : Option (Ob × Int32 × Int32 × Int32 × Int32)) = some out from h)
    | succ n hrc =>
      intro vM x1 x2 x3 x4 x5 h H locs ls hP hD hS hl
      have h : m_X6_layRows_L32B  (m_X6_layRows_L32  n) vM x1 x2 x3 x4 x5 = some out := h
      generalize m_X6_layRows_L32  n = rc at h hrc
      unfold m_X6_layRows_L32B at h
      refine lv_iload hx hb dX6_layRows_32 (lv_at hl 5 rfl) ?_
      refine lv_if_lt (tgt := 58) hx hb dX6_layRows_34 (by decide) (fun c34 => ?_) (fun c34 => ?_)
      · have h := (if_pos c34).symm.trans h
        exact hKx _ (Option.some.inj h).symm _ _ _ hP hD hS (lv_sub hl [0, 1, 2, 3, 4] rfl)
      · have h := (if_neg c34).symm.trans h
        refine lv_bipush (v := (8 : Int32)) hx hb dX6_layRows_37 k_bipush_8 ?_
        refine lv_iload hx hb dX6_layRows_39 (lv_at hl 4 rfl) ?_
        refine lv_imul hx hb dX6_layRows_41 ?_
        refine lv_aload_n hx hb dX6_layRows_42 rfl (lv_at hl 0 rfl) ?_
        refine va_get (D := G) (ci := 6) (v := .ref (aM 27)) (C := RX6) (T := TX6) (N := 29) hx hb hts fi_X6_layRows_X6 hown hEN.1 hP 0 rfl rfl 26 (by decide) (hts (.fieldLink RX6 50 "HourWellModel" "row" "[I") (List.mem_of_getElem? (i := 3) rfl)) (fun _ h9 => h9) rfl dX6_layRows_43 ?_
        refine lv_iload hx hb dX6_layRows_46 (lv_at hl 5 rfl) ?_
        obtain ⟨hg48, h⟩ := grd_some h
        refine va_iald (f := (vM 27)) hx hb hEN.1 hP 14 0 rfl rfl (inb_in hg48) dX6_layRows_48 ?_
        refine lv_iadd hx hb dX6_layRows_49 ?_
        refine lv_istore (lv' := [(4, .int (((8 : Int32) * x4) + ((vM 27) (Int32.toNatClampNeg x5)))), (0, .ref (aM 0)), (1, .int x1), (2, .int x2), (3, .int x3), (5, .int x5)]) hx hb dX6_layRows_50 hl (by decide) rfl (fun ls hl => ?_)
        refine lv_iinc (v := (x5 + (-1 : Int32))) (lv' := [(5, .int (x5 + (-1 : Int32))), (4, .int (((8 : Int32) * x4) + ((vM 27) (Int32.toNatClampNeg x5)))), (0, .ref (aM 0)), (1, .int x1), (2, .int x2), (3, .int x3)]) hx hb dX6_layRows_52 hl (k := 5) rfl (congrArg (fun z => x5 + z) k_iconst_n1) (by decide) rfl (fun ls hl => ?_)
        refine lv_goto (tgt := 32) hx hb dX6_layRows_55 (by decide) ?_
        exact hrc vM x1 x2 x3 (((8 : Int32) * x4) + ((vM 27) (Int32.toNatClampNeg x5))) (x5 + (-1 : Int32)) h _ _ _ hP hD hS (lv_sub hl [2, 3, 4, 5, 1, 0] rfl)
  have L61 : ∀ (out : Ob × Int32 × Int32 × Int32 × Int32), (∀ ex : Ob × Int32 × Int32 × Int32 × Int32, out = ex → ∀ (H : Heap) (locs : List Loc) (ls : Array Slot), va_P G vwCl [oX6 aM ex.1 vT, ai cI (aM 1) 70 (ex.1 1), ai cI (aM 2) 70 (ex.1 2), ai cI (aM 3) 40 (ex.1 3), ai cI (aM 4) 80 (ex.1 4), ai cZ (aM 5) 2 (ex.1 5), ai cI (aM 6) 200 (ex.1 6), ai cI (aM 8) 12 (ex.1 8), ai cI (aM 10) 12 (ex.1 10), ai cI (aM 18) 427 (ex.1 18), ai cI (aM 21) 100 (ex.1 21), ai cI (aM 23) 100 (ex.1 23), ai cI (aM 24) 100 (ex.1 24), ai cI (aM 26) 7 (ex.1 26), ai cI (aM 27) 5 (ex.1 27), ai cI (aM 28) 64 (ex.1 28)] H → va_D A [oX6 aM ex.1 vT, ai cI (aM 1) 70 (ex.1 1), ai cI (aM 2) 70 (ex.1 2), ai cI (aM 3) 40 (ex.1 3), ai cI (aM 4) 80 (ex.1 4), ai cZ (aM 5) 2 (ex.1 5), ai cI (aM 6) 200 (ex.1 6), ai cI (aM 8) 12 (ex.1 8), ai cI (aM 10) 12 (ex.1 10), ai cI (aM 18) 427 (ex.1 18), ai cI (aM 21) 100 (ex.1 21), ai cI (aM 23) 100 (ex.1 23), ai cI (aM 24) 100 (ex.1 24), ai cI (aM 26) 7 (ex.1 26), ai cI (aM 27) 5 (ex.1 27), ai cI (aM 28) 64 (ex.1 28)] → va_S A s.heap H locs → lv_has ls 6 [(0, .ref (aM 0)), (1, .int ex.2.1), (2, .int ex.2.2.1), (3, .int ex.2.2.2.1), (4, .int ex.2.2.2.2)] → W p l e rm_X6_layRows s m args below meth c H locs 0 0 Q (F0 m 98 ls [])) → ∀ (n : Nat) (vM : Ob) (x1 : Int32) (x2 : Int32) (x3 : Int32) (x4 : Int32) (x5 : Int32), m_X6_layRows_L61  n vM x1 x2 x3 x4 x5 = some out → ∀ (H : Heap) (locs : List Loc) (ls : Array Slot), va_P G vwCl [oX6 aM vM vT, ai cI (aM 1) 70 (vM 1), ai cI (aM 2) 70 (vM 2), ai cI (aM 3) 40 (vM 3), ai cI (aM 4) 80 (vM 4), ai cZ (aM 5) 2 (vM 5), ai cI (aM 6) 200 (vM 6), ai cI (aM 8) 12 (vM 8), ai cI (aM 10) 12 (vM 10), ai cI (aM 18) 427 (vM 18), ai cI (aM 21) 100 (vM 21), ai cI (aM 23) 100 (vM 23), ai cI (aM 24) 100 (vM 24), ai cI (aM 26) 7 (vM 26), ai cI (aM 27) 5 (vM 27), ai cI (aM 28) 64 (vM 28)] H → va_D A [oX6 aM vM vT, ai cI (aM 1) 70 (vM 1), ai cI (aM 2) 70 (vM 2), ai cI (aM 3) 40 (vM 3), ai cI (aM 4) 80 (vM 4), ai cZ (aM 5) 2 (vM 5), ai cI (aM 6) 200 (vM 6), ai cI (aM 8) 12 (vM 8), ai cI (aM 10) 12 (vM 10), ai cI (aM 18) 427 (vM 18), ai cI (aM 21) 100 (vM 21), ai cI (aM 23) 100 (vM 23), ai cI (aM 24) 100 (vM 24), ai cI (aM 26) 7 (vM 26), ai cI (aM 27) 5 (vM 27), ai cI (aM 28) 64 (vM 28)] → va_S A s.heap H locs → lv_has ls 6 [(0, .ref (aM 0)), (1, .int x1), (2, .int x2), (3, .int x3), (4, .int x4), (5, .int x5)] → W p l e rm_X6_layRows s m args below meth c H locs 0 0 Q (F0 m 61 ls []) := by
    intro out hKx
    have j91 : ∀ (rc : Ob → Int32 → Int32 → Int32 → Int32 → Int32 → Option (Ob × Int32 × Int32 × Int32 × Int32)), (∀ (vM : Ob) (x1 : Int32) (x2 : Int32) (x3 : Int32) (x4 : Int32) (x5 : Int32), rc vM x1 x2 x3 x4 x5 = some out → ∀ (H : Heap) (locs : List Loc) (ls : Array Slot), va_P G vwCl [oX6 aM vM vT, ai cI (aM 1) 70 (vM 1), ai cI (aM 2) 70 (vM 2), ai cI (aM 3) 40 (vM 3), ai cI (aM 4) 80 (vM 4), ai cZ (aM 5) 2 (vM 5), ai cI (aM 6) 200 (vM 6), ai cI (aM 8) 12 (vM 8), ai cI (aM 10) 12 (vM 10), ai cI (aM 18) 427 (vM 18), ai cI (aM 21) 100 (vM 21), ai cI (aM 23) 100 (vM 23), ai cI (aM 24) 100 (vM 24), ai cI (aM 26) 7 (vM 26), ai cI (aM 27) 5 (vM 27), ai cI (aM 28) 64 (vM 28)] H → va_D A [oX6 aM vM vT, ai cI (aM 1) 70 (vM 1), ai cI (aM 2) 70 (vM 2), ai cI (aM 3) 40 (vM 3), ai cI (aM 4) 80 (vM 4), ai cZ (aM 5) 2 (vM 5), ai cI (aM 6) 200 (vM 6), ai cI (aM 8) 12 (vM 8), ai cI (aM 10) 12 (vM 10), ai cI (aM 18) 427 (vM 18), ai cI (aM 21) 100 (vM 21), ai cI (aM 23) 100 (vM 23), ai cI (aM 24) 100 (vM 24), ai cI (aM 26) 7 (vM 26), ai cI (aM 27) 5 (vM 27), ai cI (aM 28) 64 (vM 28)] → va_S A s.heap H locs → lv_has ls 6 [(0, .ref (aM 0)), (1, .int x1), (2, .int x2), (3, .int x3), (4, .int x4), (5, .int x5)] → W p l e rm_X6_layRows s m args below meth c H locs 0 0 Q (F0 m 61 ls [])) → ∀ (vM : Ob) (x1 : Int32) (x2 : Int32) (x4 : Int32) (x5 : Int32) (s0 : Int32), m_X6_layRows_j91  rc vM x1 x2 x4 x5 s0 = some out → ∀ (H : Heap) (locs : List Loc) (ls : Array Slot), va_P G vwCl [oX6 aM vM vT, ai cI (aM 1) 70 (vM 1), ai cI (aM 2) 70 (vM 2), ai cI (aM 3) 40 (vM 3), ai cI (aM 4) 80 (vM 4), ai cZ (aM 5) 2 (vM 5), ai cI (aM 6) 200 (vM 6), ai cI (aM 8) 12 (vM 8), ai cI (aM 10) 12 (vM 10), ai cI (aM 18) 427 (vM 18), ai cI (aM 21) 100 (vM 21), ai cI (aM 23) 100 (vM 23), ai cI (aM 24) 100 (vM 24), ai cI (aM 26) 7 (vM 26), ai cI (aM 27) 5 (vM 27), ai cI (aM 28) 64 (vM 28)] H → va_D A [oX6 aM vM vT, ai cI (aM 1) 70 (vM 1), ai cI (aM 2) 70 (vM 2), ai cI (aM 3) 40 (vM 3), ai cI (aM 4) 80 (vM 4), ai cZ (aM 5) 2 (vM 5), ai cI (aM 6) 200 (vM 6), ai cI (aM 8) 12 (vM 8), ai cI (aM 10) 12 (vM 10), ai cI (aM 18) 427 (vM 18), ai cI (aM 21) 100 (vM 21), ai cI (aM 23) 100 (vM 23), ai cI (aM 24) 100 (vM 24), ai cI (aM 26) 7 (vM 26), ai cI (aM 27) 5 (vM 27), ai cI (aM 28) 64 (vM 28)] → va_S A s.heap H locs → lv_has ls 6 [(0, .ref (aM 0)), (1, .int x1), (2, .int x2), (4, .int x4), (5, .int x5)] → W p l e rm_X6_layRows s m args below meth c H locs 0 0 Q (F0 m 91 ls [.int s0]) := by
      intro rc hrc vM x1 x2 x4 x5 s0 h H locs ls hP hD hS hl
      unfold m_X6_layRows_j91 at h
      refine lv_istore_n (lv' := [(3, .int s0), (0, .ref (aM 0)), (1, .int x1), (2, .int x2), (4, .int x4), (5, .int x5)]) hx hb dX6_layRows_91 rfl hl (by decide) rfl (fun ls hl => ?_)
      refine lv_iinc (v := (x5 + (1 : Int32))) (lv' := [(5, .int (x5 + (1 : Int32))), (3, .int s0), (0, .ref (aM 0)), (1, .int x1), (2, .int x2), (4, .int x4)]) hx hb dX6_layRows_92 hl (k := 5) rfl (congrArg (fun z => x5 + z) k_iconst_1) (by decide) rfl (fun ls hl => ?_)
      refine lv_goto (tgt := 61) hx hb dX6_layRows_95 (by decide) ?_
      exact hrc vM x1 x2 s0 x4 (x5 + (1 : Int32)) h _ _ _ hP hD hS (lv_sub hl [2, 3, 4, 1, 5, 0] rfl)
    have j90 : ∀ (rc : Ob → Int32 → Int32 → Int32 → Int32 → Int32 → Option (Ob × Int32 × Int32 × Int32 × Int32)), (∀ (vM : Ob) (x1 : Int32) (x2 : Int32) (x3 : Int32) (x4 : Int32) (x5 : Int32), rc vM x1 x2 x3 x4 x5 = some out → ∀ (H : Heap) (locs : List Loc) (ls : Array Slot), va_P G vwCl [oX6 aM vM vT, ai cI (aM 1) 70 (vM 1), ai cI (aM 2) 70 (vM 2), ai cI (aM 3) 40 (vM 3), ai cI (aM 4) 80 (vM 4), ai cZ (aM 5) 2 (vM 5), ai cI (aM 6) 200 (vM 6), ai cI (aM 8) 12 (vM 8), ai cI (aM 10) 12 (vM 10), ai cI (aM 18) 427 (vM 18), ai cI (aM 21) 100 (vM 21), ai cI (aM 23) 100 (vM 23), ai cI (aM 24) 100 (vM 24), ai cI (aM 26) 7 (vM 26), ai cI (aM 27) 5 (vM 27), ai cI (aM 28) 64 (vM 28)] H → va_D A [oX6 aM vM vT, ai cI (aM 1) 70 (vM 1), ai cI (aM 2) 70 (vM 2), ai cI (aM 3) 40 (vM 3), ai cI (aM 4) 80 (vM 4), ai cZ (aM 5) 2 (vM 5), ai cI (aM 6) 200 (vM 6), ai cI (aM 8) 12 (vM 8), ai cI (aM 10) 12 (vM 10), ai cI (aM 18) 427 (vM 18), ai cI (aM 21) 100 (vM 21), ai cI (aM 23) 100 (vM 23), ai cI (aM 24) 100 (vM 24), ai cI (aM 26) 7 (vM 26), ai cI (aM 27) 5 (vM 27), ai cI (aM 28) 64 (vM 28)] → va_S A s.heap H locs → lv_has ls 6 [(0, .ref (aM 0)), (1, .int x1), (2, .int x2), (3, .int x3), (4, .int x4), (5, .int x5)] → W p l e rm_X6_layRows s m args below meth c H locs 0 0 Q (F0 m 61 ls [])) → ∀ (vM : Ob) (x1 : Int32) (x2 : Int32) (x4 : Int32) (x5 : Int32), m_X6_layRows_j90  rc vM x1 x2 x4 x5 = some out → ∀ (H : Heap) (locs : List Loc) (ls : Array Slot), va_P G vwCl [oX6 aM vM vT, ai cI (aM 1) 70 (vM 1), ai cI (aM 2) 70 (vM 2), ai cI (aM 3) 40 (vM 3), ai cI (aM 4) 80 (vM 4), ai cZ (aM 5) 2 (vM 5), ai cI (aM 6) 200 (vM 6), ai cI (aM 8) 12 (vM 8), ai cI (aM 10) 12 (vM 10), ai cI (aM 18) 427 (vM 18), ai cI (aM 21) 100 (vM 21), ai cI (aM 23) 100 (vM 23), ai cI (aM 24) 100 (vM 24), ai cI (aM 26) 7 (vM 26), ai cI (aM 27) 5 (vM 27), ai cI (aM 28) 64 (vM 28)] H → va_D A [oX6 aM vM vT, ai cI (aM 1) 70 (vM 1), ai cI (aM 2) 70 (vM 2), ai cI (aM 3) 40 (vM 3), ai cI (aM 4) 80 (vM 4), ai cZ (aM 5) 2 (vM 5), ai cI (aM 6) 200 (vM 6), ai cI (aM 8) 12 (vM 8), ai cI (aM 10) 12 (vM 10), ai cI (aM 18) 427 (vM 18), ai cI (aM 21) 100 (vM 21), ai cI (aM 23) 100 (vM 23), ai cI (aM 24) 100 (vM 24), ai cI (aM 26) 7 (vM 26), ai cI (aM 27) 5 (vM 27), ai cI (aM 28) 64 (vM 28)] → va_S A s.heap H locs → lv_has ls 6 [(0, .ref (aM 0)), (1, .int x1), (2, .int x2), (4, .int x4), (5, .int x5)] → W p l e rm_X6_layRows s m args below meth c H locs 0 0 Q (F0 m 90 ls []) := by
      intro rc hrc vM x1 x2 x4 x5 h H locs ls hP hD hS hl
      unfold m_X6_layRows_j90 at h
      refine lv_iconst (v := (0 : Int32)) hx hb dX6_layRows_90 k_iconst_0 ?_
      exact j91 rc hrc vM x1 x2 x4 x5 (0 : Int32) h _ _ _ hP hD hS (lv_sub hl [0, 1, 2, 3, 4] rfl)
    intro n
    induction n with
    | zero => intro vM x1 x2 x3 x4 x5 h; exact nomatch (show (none : Option (Ob × Int32 × Int32 × Int32 × Int32)) = some out from h)
    | succ n hrc =>
      intro vM x1 x2 x3 x4 x5 h H locs ls hP hD hS hl
      have h : m_X6_layRows_L61B  (m_X6_layRows_L61  n) vM x1 x2 x3 x4 x5 = some out := h
      generalize m_X6_layRows_L61  n = rc at h hrc
      unfold m_X6_layRows_L61B at h
      refine lv_iload hx hb dX6_layRows_61 (lv_at hl 5 rfl) ?_
      refine lv_aload_n hx hb dX6_layRows_63 rfl (lv_at hl 0 rfl) ?_
      refine va_get (D := G) (ci := 6) (v := .int (vM 0 28)) (C := RX6) (T := TX6) (N := 29) hx hb hts fi_X6_layRows_X6 hown hEN.1 hP 0 rfl rfl 28 (by decide) (hts (.fieldLink RX6 264 "HourWellModel" "rowMany" "I") (List.mem_of_getElem? (i := 1) rfl)) (fun _ h9 => h9) rfl dX6_layRows_64 ?_
      refine lv_icmp_ge (tgt := 98) hx hb dX6_layRows_67 (by decide) (fun c67 => ?_) (fun c67 => ?_)
      · have h := (if_pos c67).symm.trans h
        exact hKx _ (Option.some.inj h).symm _ _ _ hP hD hS (lv_sub hl [0, 1, 2, 3, 4] rfl)
      · have h := (if_neg c67).symm.trans h
        refine lv_iload_n hx hb dX6_layRows_70 rfl (lv_at hl 3 rfl) ?_
        refine lv_if_eq (tgt := 90) hx hb dX6_layRows_71 (by decide) (fun c71 => ?_) (fun c71 => ?_)
        · have h := (if_pos c71).symm.trans h
          exact j90 rc hrc vM x1 x2 x4 x5 h _ _ _ hP hD hS (lv_sub hl [0, 1, 2, 4, 5] rfl)
        · have h := (if_neg c71).symm.trans h
          refine lv_aload_n hx hb dX6_layRows_74 rfl (lv_at hl 0 rfl) ?_
          refine va_get (D := G) (ci := 6) (v := .ref (aM 28)) (C := RX6) (T := TX6) (N := 29) hx hb hts fi_X6_layRows_X6 hown hEN.1 hP 0 rfl rfl 27 (by decide) (hts (.fieldLink RX6 53 "HourWellModel" "rows" "[I") (List.mem_of_getElem? (i := 4) rfl)) (fun _ h9 => h9) rfl dX6_layRows_75 ?_
          refine lv_iload hx hb dX6_layRows_78 (lv_at hl 5 rfl) ?_
          obtain ⟨hg80, h⟩ := grd_some h
          refine va_iald (f := (vM 28)) hx hb hEN.1 hP 15 0 rfl rfl (inb_in hg80) dX6_layRows_80 ?_
          refine lv_iload hx hb dX6_layRows_81 (lv_at hl 4 rfl) ?_
          refine lv_icmp_eq (tgt := 90) hx hb dX6_layRows_83 (by decide) (fun c83 => ?_) (fun c83 => ?_)
          · have h := (if_pos c83).symm.trans h
            exact j90 rc hrc vM x1 x2 x4 x5 h _ _ _ hP hD hS (lv_sub hl [0, 1, 2, 4, 5] rfl)
          · have h := (if_neg c83).symm.trans h
            refine lv_iconst (v := (1 : Int32)) hx hb dX6_layRows_86 k_iconst_1 ?_
            refine lv_goto (tgt := 91) hx hb dX6_layRows_87 (by decide) ?_
            exact j91 rc hrc vM x1 x2 x4 x5 (1 : Int32) h _ _ _ hP hD hS (lv_sub hl [0, 1, 2, 4, 5] rfl)
  have L7 : ∀ (out : Ob), (∀ ex : Ob, out = ex → ∀ (H : Heap) (locs : List Loc) (ls : Array Slot), va_P G vwCl [oX6 aM ex vT, ai cI (aM 1) 70 (ex 1), ai cI (aM 2) 70 (ex 2), ai cI (aM 3) 40 (ex 3), ai cI (aM 4) 80 (ex 4), ai cZ (aM 5) 2 (ex 5), ai cI (aM 6) 200 (ex 6), ai cI (aM 8) 12 (ex 8), ai cI (aM 10) 12 (ex 10), ai cI (aM 18) 427 (ex 18), ai cI (aM 21) 100 (ex 21), ai cI (aM 23) 100 (ex 23), ai cI (aM 24) 100 (ex 24), ai cI (aM 26) 7 (ex 26), ai cI (aM 27) 5 (ex 27), ai cI (aM 28) 64 (ex 28)] H → va_D A [oX6 aM ex vT, ai cI (aM 1) 70 (ex 1), ai cI (aM 2) 70 (ex 2), ai cI (aM 3) 40 (ex 3), ai cI (aM 4) 80 (ex 4), ai cZ (aM 5) 2 (ex 5), ai cI (aM 6) 200 (ex 6), ai cI (aM 8) 12 (ex 8), ai cI (aM 10) 12 (ex 10), ai cI (aM 18) 427 (ex 18), ai cI (aM 21) 100 (ex 21), ai cI (aM 23) 100 (ex 23), ai cI (aM 24) 100 (ex 24), ai cI (aM 26) 7 (ex 26), ai cI (aM 27) 5 (ex 27), ai cI (aM 28) 64 (ex 28)] → va_S A s.heap H locs → lv_has ls 6 [] → W p l e rm_X6_layRows s m args below meth c H locs 0 0 Q (F0 m 149 ls [])) → ∀ (n : Nat) (vM : Ob) (x1 : Int32) (x2 : Int32), m_X6_layRows_L7  n vM x1 x2 = some out → ∀ (H : Heap) (locs : List Loc) (ls : Array Slot), va_P G vwCl [oX6 aM vM vT, ai cI (aM 1) 70 (vM 1), ai cI (aM 2) 70 (vM 2), ai cI (aM 3) 40 (vM 3), ai cI (aM 4) 80 (vM 4), ai cZ (aM 5) 2 (vM 5), ai cI (aM 6) 200 (vM 6), ai cI (aM 8) 12 (vM 8), ai cI (aM 10) 12 (vM 10), ai cI (aM 18) 427 (vM 18), ai cI (aM 21) 100 (vM 21), ai cI (aM 23) 100 (vM 23), ai cI (aM 24) 100 (vM 24), ai cI (aM 26) 7 (vM 26), ai cI (aM 27) 5 (vM 27), ai cI (aM 28) 64 (vM 28)] H → va_D A [oX6 aM vM vT, ai cI (aM 1) 70 (vM 1), ai cI (aM 2) 70 (vM 2), ai cI (aM 3) 40 (vM 3), ai cI (aM 4) 80 (vM 4), ai cZ (aM 5) 2 (vM 5), ai cI (aM 6) 200 (vM 6), ai cI (aM 8) 12 (vM 8), ai cI (aM 10) 12 (vM 10), ai cI (aM 18) 427 (vM 18), ai cI (aM 21) 100 (vM 21), ai cI (aM 23) 100 (vM 23), ai cI (aM 24) 100 (vM 24), ai cI (aM 26) 7 (vM 26), ai cI (aM 27) 5 (vM 27), ai cI (aM 28) 64 (vM 28)] → va_S A s.heap H locs → lv_has ls 6 [(0, .ref (aM 0)), (1, .int x1), (2, .int x2)] → W p l e rm_X6_layRows s m args below meth c H locs 0 0 Q (F0 m 7 ls []) := by
    intro out hKx
    have j139 : ∀ (rc : Ob → Int32 → Int32 → Option (Ob)), (∀ (vM : Ob) (x1 : Int32) (x2 : Int32), rc vM x1 x2 = some out → ∀ (H : Heap) (locs : List Loc) (ls : Array Slot), va_P G vwCl [oX6 aM vM vT, ai cI (aM 1) 70 (vM 1), ai cI (aM 2) 70 (vM 2), ai cI (aM 3) 40 (vM 3), ai cI (aM 4) 80 (vM 4), ai cZ (aM 5) 2 (vM 5), ai cI (aM 6) 200 (vM 6), ai cI (aM 8) 12 (vM 8), ai cI (aM 10) 12 (vM 10), ai cI (aM 18) 427 (vM 18), ai cI (aM 21) 100 (vM 21), ai cI (aM 23) 100 (vM 23), ai cI (aM 24) 100 (vM 24), ai cI (aM 26) 7 (vM 26), ai cI (aM 27) 5 (vM 27), ai cI (aM 28) 64 (vM 28)] H → va_D A [oX6 aM vM vT, ai cI (aM 1) 70 (vM 1), ai cI (aM 2) 70 (vM 2), ai cI (aM 3) 40 (vM 3), ai cI (aM 4) 80 (vM 4), ai cZ (aM 5) 2 (vM 5), ai cI (aM 6) 200 (vM 6), ai cI (aM 8) 12 (vM 8), ai cI (aM 10) 12 (vM 10), ai cI (aM 18) 427 (vM 18), ai cI (aM 21) 100 (vM 21), ai cI (aM 23) 100 (vM 23), ai cI (aM 24) 100 (vM 24), ai cI (aM 26) 7 (vM 26), ai cI (aM 27) 5 (vM 27), ai cI (aM 28) 64 (vM 28)] → va_S A s.heap H locs → lv_has ls 6 [(0, .ref (aM 0)), (1, .int x1), (2, .int x2)] → W p l e rm_X6_layRows s m args below meth c H locs 0 0 Q (F0 m 7 ls [])) → ∀ (vM : Ob) (x1 : Int32) (x2 : Int32) (s1 : Int32) (s2 : Int32), m_X6_layRows_j139  rc vM x1 x2 s1 s2 = some out → ∀ (H : Heap) (locs : List Loc) (ls : Array Slot), va_P G vwCl [oX6 aM vM vT, ai cI (aM 1) 70 (vM 1), ai cI (aM 2) 70 (vM 2), ai cI (aM 3) 40 (vM 3), ai cI (aM 4) 80 (vM 4), ai cZ (aM 5) 2 (vM 5), ai cI (aM 6) 200 (vM 6), ai cI (aM 8) 12 (vM 8), ai cI (aM 10) 12 (vM 10), ai cI (aM 18) 427 (vM 18), ai cI (aM 21) 100 (vM 21), ai cI (aM 23) 100 (vM 23), ai cI (aM 24) 100 (vM 24), ai cI (aM 26) 7 (vM 26), ai cI (aM 27) 5 (vM 27), ai cI (aM 28) 64 (vM 28)] H → va_D A [oX6 aM vM vT, ai cI (aM 1) 70 (vM 1), ai cI (aM 2) 70 (vM 2), ai cI (aM 3) 40 (vM 3), ai cI (aM 4) 80 (vM 4), ai cZ (aM 5) 2 (vM 5), ai cI (aM 6) 200 (vM 6), ai cI (aM 8) 12 (vM 8), ai cI (aM 10) 12 (vM 10), ai cI (aM 18) 427 (vM 18), ai cI (aM 21) 100 (vM 21), ai cI (aM 23) 100 (vM 23), ai cI (aM 24) 100 (vM 24), ai cI (aM 26) 7 (vM 26), ai cI (aM 27) 5 (vM 27), ai cI (aM 28) 64 (vM 28)] → va_S A s.heap H locs → lv_has ls 6 [(0, .ref (aM 0)), (1, .int x1), (2, .int x2)] → W p l e rm_X6_layRows s m args below meth c H locs 0 0 Q (F0 m 139 ls [.int s2, .int s1, .ref (aM 0)]) := by
      intro rc hrc vM x1 x2 s1 s2 h H locs ls hP hD hS hl
      unfold m_X6_layRows_j139 at h
      refine lv_iadd hx hb dX6_layRows_139 ?_
      refine va_put (D := G) (ci := 6) (v := .int (s1 + s2)) (ty := .int) (C := RX6) (T := TX6) (N := 29) hx hb hts fi_X6_layRows_X6 tyX6 tyX6_ok nmX6 hown hEN.1 hP hD hS 0 rfl rfl 28 (by decide) (hts (.fieldLink RX6 264 "HourWellModel" "rowMany" "I") (List.mem_of_getElem? (i := 1) rfl)) (fun _ h9 => h9) rfl (by decide +kernel) rfl rfl (Nat.le_of_ble_eq_true rfl) dX6_layRows_140 (fun H locs hP hD hS => ?_)
      have hP : va_P G vwCl [oX6 aM (st vM 0 28 (s1 + s2)) vT, ai cI (aM 1) 70 (vM 1), ai cI (aM 2) 70 (vM 2), ai cI (aM 3) 40 (vM 3), ai cI (aM 4) 80 (vM 4), ai cZ (aM 5) 2 (vM 5), ai cI (aM 6) 200 (vM 6), ai cI (aM 8) 12 (vM 8), ai cI (aM 10) 12 (vM 10), ai cI (aM 18) 427 (vM 18), ai cI (aM 21) 100 (vM 21), ai cI (aM 23) 100 (vM 23), ai cI (aM 24) 100 (vM 24), ai cI (aM 26) 7 (vM 26), ai cI (aM 27) 5 (vM 27), ai cI (aM 28) 64 (vM 28)] H := hP
      have hD : va_D A [oX6 aM (st vM 0 28 (s1 + s2)) vT, ai cI (aM 1) 70 (vM 1), ai cI (aM 2) 70 (vM 2), ai cI (aM 3) 40 (vM 3), ai cI (aM 4) 80 (vM 4), ai cZ (aM 5) 2 (vM 5), ai cI (aM 6) 200 (vM 6), ai cI (aM 8) 12 (vM 8), ai cI (aM 10) 12 (vM 10), ai cI (aM 18) 427 (vM 18), ai cI (aM 21) 100 (vM 21), ai cI (aM 23) 100 (vM 23), ai cI (aM 24) 100 (vM 24), ai cI (aM 26) 7 (vM 26), ai cI (aM 27) 5 (vM 27), ai cI (aM 28) 64 (vM 28)] := hD
      refine lv_iinc (v := (x2 + (1 : Int32))) (lv' := [(2, .int (x2 + (1 : Int32))), (0, .ref (aM 0)), (1, .int x1)]) hx hb dX6_layRows_143 hl (k := 2) rfl (congrArg (fun z => x2 + z) k_iconst_1) (by decide) rfl (fun ls hl => ?_)
      refine lv_goto (tgt := 7) hx hb dX6_layRows_146 (by decide) ?_
      exact hrc (st vM 0 28 (s1 + s2)) x1 (x2 + (1 : Int32)) h _ _ _ hP hD hS (lv_sub hl [1, 2, 0] rfl)
    have j124 : ∀ (rc : Ob → Int32 → Int32 → Option (Ob)), (∀ (vM : Ob) (x1 : Int32) (x2 : Int32), rc vM x1 x2 = some out → ∀ (H : Heap) (locs : List Loc) (ls : Array Slot), va_P G vwCl [oX6 aM vM vT, ai cI (aM 1) 70 (vM 1), ai cI (aM 2) 70 (vM 2), ai cI (aM 3) 40 (vM 3), ai cI (aM 4) 80 (vM 4), ai cZ (aM 5) 2 (vM 5), ai cI (aM 6) 200 (vM 6), ai cI (aM 8) 12 (vM 8), ai cI (aM 10) 12 (vM 10), ai cI (aM 18) 427 (vM 18), ai cI (aM 21) 100 (vM 21), ai cI (aM 23) 100 (vM 23), ai cI (aM 24) 100 (vM 24), ai cI (aM 26) 7 (vM 26), ai cI (aM 27) 5 (vM 27), ai cI (aM 28) 64 (vM 28)] H → va_D A [oX6 aM vM vT, ai cI (aM 1) 70 (vM 1), ai cI (aM 2) 70 (vM 2), ai cI (aM 3) 40 (vM 3), ai cI (aM 4) 80 (vM 4), ai cZ (aM 5) 2 (vM 5), ai cI (aM 6) 200 (vM 6), ai cI (aM 8) 12 (vM 8), ai cI (aM 10) 12 (vM 10), ai cI (aM 18) 427 (vM 18), ai cI (aM 21) 100 (vM 21), ai cI (aM 23) 100 (vM 23), ai cI (aM 24) 100 (vM 24), ai cI (aM 26) 7 (vM 26), ai cI (aM 27) 5 (vM 27), ai cI (aM 28) 64 (vM 28)] → va_S A s.heap H locs → lv_has ls 6 [(0, .ref (aM 0)), (1, .int x1), (2, .int x2)] → W p l e rm_X6_layRows s m args below meth c H locs 0 0 Q (F0 m 7 ls [])) → ∀ (vM : Ob) (x1 : Int32) (x2 : Int32) (x3 : Int32) (s1 : Int32) (s2 : Int32), m_X6_layRows_j124  rc vM x1 x2 x3 s1 s2 = some out → ∀ (H : Heap) (locs : List Loc) (ls : Array Slot), va_P G vwCl [oX6 aM vM vT, ai cI (aM 1) 70 (vM 1), ai cI (aM 2) 70 (vM 2), ai cI (aM 3) 40 (vM 3), ai cI (aM 4) 80 (vM 4), ai cZ (aM 5) 2 (vM 5), ai cI (aM 6) 200 (vM 6), ai cI (aM 8) 12 (vM 8), ai cI (aM 10) 12 (vM 10), ai cI (aM 18) 427 (vM 18), ai cI (aM 21) 100 (vM 21), ai cI (aM 23) 100 (vM 23), ai cI (aM 24) 100 (vM 24), ai cI (aM 26) 7 (vM 26), ai cI (aM 27) 5 (vM 27), ai cI (aM 28) 64 (vM 28)] H → va_D A [oX6 aM vM vT, ai cI (aM 1) 70 (vM 1), ai cI (aM 2) 70 (vM 2), ai cI (aM 3) 40 (vM 3), ai cI (aM 4) 80 (vM 4), ai cZ (aM 5) 2 (vM 5), ai cI (aM 6) 200 (vM 6), ai cI (aM 8) 12 (vM 8), ai cI (aM 10) 12 (vM 10), ai cI (aM 18) 427 (vM 18), ai cI (aM 21) 100 (vM 21), ai cI (aM 23) 100 (vM 23), ai cI (aM 24) 100 (vM 24), ai cI (aM 26) 7 (vM 26), ai cI (aM 27) 5 (vM 27), ai cI (aM 28) 64 (vM 28)] → va_S A s.heap H locs → lv_has ls 6 [(0, .ref (aM 0)), (1, .int x1), (2, .int x2), (3, .int x3)] → W p l e rm_X6_layRows s m args below meth c H locs 0 0 Q (F0 m 124 ls [.int s2, .int s1, .ref (aM 28)]) := by
      intro rc hrc vM x1 x2 x3 s1 s2 h H locs ls hP hD hS hl
      unfold m_X6_layRows_j124 at h
      obtain ⟨hg124, h⟩ := grd_some h
      refine va_iast (f := (vM 28)) hx hb hEN.1 hP hD hS 15 0 rfl rfl (inb_in hg124) dX6_layRows_124 (fun H locs hP hD hS => ?_)
      have hP : va_P G vwCl [oX6 aM vM vT, ai cI (aM 1) 70 (vM 1), ai cI (aM 2) 70 (vM 2), ai cI (aM 3) 40 (vM 3), ai cI (aM 4) 80 (vM 4), ai cZ (aM 5) 2 (vM 5), ai cI (aM 6) 200 (vM 6), ai cI (aM 8) 12 (vM 8), ai cI (aM 10) 12 (vM 10), ai cI (aM 18) 427 (vM 18), ai cI (aM 21) 100 (vM 21), ai cI (aM 23) 100 (vM 23), ai cI (aM 24) 100 (vM 24), ai cI (aM 26) 7 (vM 26), ai cI (aM 27) 5 (vM 27), ai cI (aM 28) 64 (upd (vM 28) (Int32.toNatClampNeg s1) s2)] H := hP
      have hD : va_D A [oX6 aM vM vT, ai cI (aM 1) 70 (vM 1), ai cI (aM 2) 70 (vM 2), ai cI (aM 3) 40 (vM 3), ai cI (aM 4) 80 (vM 4), ai cZ (aM 5) 2 (vM 5), ai cI (aM 6) 200 (vM 6), ai cI (aM 8) 12 (vM 8), ai cI (aM 10) 12 (vM 10), ai cI (aM 18) 427 (vM 18), ai cI (aM 21) 100 (vM 21), ai cI (aM 23) 100 (vM 23), ai cI (aM 24) 100 (vM 24), ai cI (aM 26) 7 (vM 26), ai cI (aM 27) 5 (vM 27), ai cI (aM 28) 64 (upd (vM 28) (Int32.toNatClampNeg s1) s2)] := hD
      refine lv_aload_n hx hb dX6_layRows_125 rfl (lv_at hl 0 rfl) ?_
      refine lv_dup hx hb dX6_layRows_126 rfl ?_
      refine va_get (D := G) (ci := 6) (v := .int (vM 0 28)) (C := RX6) (T := TX6) (N := 29) hx hb hts fi_X6_layRows_X6 hown hEN.1 hP 0 rfl rfl 28 (by decide) (hts (.fieldLink RX6 264 "HourWellModel" "rowMany" "I") (List.mem_of_getElem? (i := 1) rfl)) (fun _ h9 => h9) rfl dX6_layRows_127 ?_
      refine lv_iload_n hx hb dX6_layRows_130 rfl (lv_at hl 3 rfl) ?_
      refine lv_if_eq (tgt := 138) hx hb dX6_layRows_131 (by decide) (fun c131 => ?_) (fun c131 => ?_)
      · have h := (if_pos c131).symm.trans h
        refine lv_iconst (v := (0 : Int32)) hx hb dX6_layRows_138 k_iconst_0 ?_
        exact j139 rc hrc (st vM 28 (Int32.toNatClampNeg s1) s2) x1 x2 (vM 0 28) (0 : Int32) h _ _ _ hP hD hS (lv_sub hl [0, 1, 2] rfl)
      · have h := (if_neg c131).symm.trans h
        refine lv_iconst (v := (1 : Int32)) hx hb dX6_layRows_134 k_iconst_1 ?_
        refine lv_goto (tgt := 139) hx hb dX6_layRows_135 (by decide) ?_
        exact j139 rc hrc (st vM 28 (Int32.toNatClampNeg s1) s2) x1 x2 (vM 0 28) (1 : Int32) h _ _ _ hP hD hS (lv_sub hl [0, 1, 2] rfl)
    intro n
    induction n with
    | zero => intro vM x1 x2 h; exact nomatch (show (none : Option (Ob)) = some out from h)
    | succ n hrc =>
      intro vM x1 x2 h H locs ls hP hD hS hl
      have h : m_X6_layRows_L7B  (m_X6_layRows_L7  n) vM x1 x2 = some out := h
      generalize m_X6_layRows_L7  n = rc at h hrc
      unfold m_X6_layRows_L7B at h
      refine lv_iload_n hx hb dX6_layRows_7 rfl (lv_at hl 2 rfl) ?_
      refine lv_iconst (v := (1 : Int32)) hx hb dX6_layRows_8 k_iconst_1 ?_
      refine lv_aload_n hx hb dX6_layRows_9 rfl (lv_at hl 0 rfl) ?_
      refine va_get (D := G) (ci := 6) (v := .int (vM 0 8)) (C := RX6) (T := TX6) (N := 29) hx hb hts fi_X6_layRows_X6 hown hEN.1 hP 0 rfl rfl 8 (by decide) (hts (.fieldLink RX6 145 "HourWellModel" "swapMany" "I") (List.mem_of_getElem? (i := 2) rfl)) (fun _ h9 => h9) rfl dX6_layRows_10 ?_
      refine lv_ishl hx hb dX6_layRows_13 ?_
      refine lv_icmp_ge (tgt := 149) hx hb dX6_layRows_14 (by decide) (fun c14 => ?_) (fun c14 => ?_)
      · have h := (if_pos c14).symm.trans h
        exact hKx _ (Option.some.inj h).symm _ _ _ hP hD hS (lv_sub hl [] rfl)
      · have h := (if_neg c14).symm.trans h
        refine lv_aload_n hx hb dX6_layRows_17 rfl (lv_at hl 0 rfl) ?_
        refine lv_iload_n hx hb dX6_layRows_18 rfl (lv_at hl 1 rfl) ?_
        refine lv_iload_n hx hb dX6_layRows_19 rfl (lv_at hl 2 rfl) ?_
        obtain ⟨o20, ho20, h⟩ := bnd_some h
        refine call_VJ (wr := []) (As := [.int x1, .int x2]) (rest := []) ⟨hx, hb, hml, hown, hts⟩ (c_X6_layCups l G cI cZ aM vT vM x1 x2 o20 ho20) (cwV 2 hts gX6_layRows_X6_layCups rfl rfl rfl hdV_X6_layCups ⟨Nat.le_of_ble_eq_true rfl, Nat.le_of_ble_eq_true rfl⟩) hEN hA hP hD hS [0, 1, 2, 3, 4, 5, 6, 7, 8, 9, 10, 11, 12, 13, 14, 15] [] rfl (by decide) rfl (by decide) (by decide) 0 rfl rfl rfl hl.1 rfl (Nat.le_of_ble_eq_true rfl) dX6_layRows_20 ⟨Nat.le_of_ble_eq_true rfl, Nat.le_of_ble_eq_true rfl⟩ (fun H locs hP hD hS => ?_)
        have hP : va_P G vwCl [oX6 aM o20.2 vT, ai cI (aM 1) 70 (o20.2 1), ai cI (aM 2) 70 (o20.2 2), ai cI (aM 3) 40 (o20.2 3), ai cI (aM 4) 80 (o20.2 4), ai cZ (aM 5) 2 (o20.2 5), ai cI (aM 6) 200 (o20.2 6), ai cI (aM 8) 12 (o20.2 8), ai cI (aM 10) 12 (o20.2 10), ai cI (aM 18) 427 (o20.2 18), ai cI (aM 21) 100 (o20.2 21), ai cI (aM 23) 100 (o20.2 23), ai cI (aM 24) 100 (o20.2 24), ai cI (aM 26) 7 (o20.2 26), ai cI (aM 27) 5 (o20.2 27), ai cI (aM 28) 64 (o20.2 28)] H := hP
        have hD : va_D A [oX6 aM o20.2 vT, ai cI (aM 1) 70 (o20.2 1), ai cI (aM 2) 70 (o20.2 2), ai cI (aM 3) 40 (o20.2 3), ai cI (aM 4) 80 (o20.2 4), ai cZ (aM 5) 2 (o20.2 5), ai cI (aM 6) 200 (o20.2 6), ai cI (aM 8) 12 (o20.2 8), ai cI (aM 10) 12 (o20.2 10), ai cI (aM 18) 427 (o20.2 18), ai cI (aM 21) 100 (o20.2 21), ai cI (aM 23) 100 (o20.2 23), ai cI (aM 24) 100 (o20.2 24), ai cI (aM 26) 7 (o20.2 26), ai cI (aM 27) 5 (o20.2 27), ai cI (aM 28) 64 (o20.2 28)] := hD
        refine lv_istore_n (lv' := [(3, .int o20.1), (0, .ref (aM 0)), (1, .int x1), (2, .int x2)]) hx hb dX6_layRows_23 rfl hl (by decide) rfl (fun ls hl => ?_)
        refine lv_iconst (v := (0 : Int32)) hx hb dX6_layRows_24 k_iconst_0 ?_
        refine lv_istore (lv' := [(4, .int (0 : Int32)), (3, .int o20.1), (0, .ref (aM 0)), (1, .int x1), (2, .int x2)]) hx hb dX6_layRows_25 hl (by decide) rfl (fun ls hl => ?_)
        refine lv_iload_n hx hb dX6_layRows_27 rfl (lv_at hl 3 rfl) ?_
        refine lv_iconst (v := (1 : Int32)) hx hb dX6_layRows_28 k_iconst_1 ?_
        refine lv_isub hx hb dX6_layRows_29 ?_
        refine lv_istore (lv' := [(5, .int (x1 - (1 : Int32))), (4, .int (0 : Int32)), (3, .int o20.1), (0, .ref (aM 0)), (1, .int x1), (2, .int x2)]) hx hb dX6_layRows_30 hl (by decide) rfl (fun ls hl => ?_)
        obtain ⟨o32_1, ho32_1, h⟩ := bnd_some h
        refine L32 o32_1 (fun o32_1e er H locs ls hP hD hS hl => ?_) FU o20.2 x1 x2 o20.1 (0 : Int32) (x1 - (1 : Int32)) ho32_1 _ _ _ hP hD hS (lv_sub hl [3, 4, 5, 2, 1, 0] rfl)
        subst er
        refine lv_iconst (v := (0 : Int32)) hx hb dX6_layRows_58 k_iconst_0 ?_
        refine lv_istore (lv' := [(5, .int (0 : Int32)), (0, .ref (aM 0)), (1, .int o32_1.2.1), (2, .int o32_1.2.2.1), (3, .int o32_1.2.2.2.1), (4, .int o32_1.2.2.2.2)]) hx hb dX6_layRows_59 hl (by decide) rfl (fun ls hl => ?_)
        obtain ⟨o61_2, ho61_2, h⟩ := bnd_some h
        refine L61 o61_2 (fun o61_2e er H locs ls hP hD hS hl => ?_) FU o32_1.1 o32_1.2.1 o32_1.2.2.1 o32_1.2.2.2.1 o32_1.2.2.2.2 (0 : Int32) ho61_2 _ _ _ hP hD hS (lv_sub hl [1, 2, 3, 4, 5, 0] rfl)
        subst er
        refine lv_aload_n hx hb dX6_layRows_98 rfl (lv_at hl 0 rfl) ?_
        refine va_get (D := G) (ci := 6) (v := .ref (aM 28)) (C := RX6) (T := TX6) (N := 29) hx hb hts fi_X6_layRows_X6 hown hEN.1 hP 0 rfl rfl 27 (by decide) (hts (.fieldLink RX6 53 "HourWellModel" "rows" "[I") (List.mem_of_getElem? (i := 4) rfl)) (fun _ h9 => h9) rfl dX6_layRows_99 ?_
        refine lv_aload_n hx hb dX6_layRows_102 rfl (lv_at hl 0 rfl) ?_
        refine va_get (D := G) (ci := 6) (v := .int (o61_2.1 0 28)) (C := RX6) (T := TX6) (N := 29) hx hb hts fi_X6_layRows_X6 hown hEN.1 hP 0 rfl rfl 28 (by decide) (hts (.fieldLink RX6 264 "HourWellModel" "rowMany" "I") (List.mem_of_getElem? (i := 1) rfl)) (fun _ h9 => h9) rfl dX6_layRows_103 ?_
        refine lv_iload_n hx hb dX6_layRows_106 rfl (lv_at hl 3 rfl) ?_
        refine lv_if_eq (tgt := 115) hx hb dX6_layRows_107 (by decide) (fun c107 => ?_) (fun c107 => ?_)
        · have h := (if_pos c107).symm.trans h
          refine lv_aload_n hx hb dX6_layRows_115 rfl (lv_at hl 0 rfl) ?_
          refine va_get (D := G) (ci := 6) (v := .ref (aM 28)) (C := RX6) (T := TX6) (N := 29) hx hb hts fi_X6_layRows_X6 hown hEN.1 hP 0 rfl rfl 27 (by decide) (hts (.fieldLink RX6 53 "HourWellModel" "rows" "[I") (List.mem_of_getElem? (i := 4) rfl)) (fun _ h9 => h9) rfl dX6_layRows_116 ?_
          refine lv_aload_n hx hb dX6_layRows_119 rfl (lv_at hl 0 rfl) ?_
          refine va_get (D := G) (ci := 6) (v := .int (o61_2.1 0 28)) (C := RX6) (T := TX6) (N := 29) hx hb hts fi_X6_layRows_X6 hown hEN.1 hP 0 rfl rfl 28 (by decide) (hts (.fieldLink RX6 264 "HourWellModel" "rowMany" "I") (List.mem_of_getElem? (i := 1) rfl)) (fun _ h9 => h9) rfl dX6_layRows_120 ?_
          obtain ⟨hg123, h⟩ := grd_some h
          refine va_iald (f := (o61_2.1 28)) hx hb hEN.1 hP 15 0 rfl rfl (inb_in hg123) dX6_layRows_123 ?_
          exact j124 rc hrc o61_2.1 o61_2.2.1 o61_2.2.2.1 o61_2.2.2.2.1 (o61_2.1 0 28) ((o61_2.1 28) (Int32.toNatClampNeg (o61_2.1 0 28))) h _ _ _ hP hD hS (lv_sub hl [0, 1, 2, 3] rfl)
        · have h := (if_neg c107).symm.trans h
          refine lv_iload hx hb dX6_layRows_110 (lv_at hl 4 rfl) ?_
          refine lv_goto (tgt := 124) hx hb dX6_layRows_112 (by decide) ?_
          exact j124 rc hrc o61_2.1 o61_2.2.1 o61_2.2.2.1 o61_2.2.2.2.1 (o61_2.1 0 28) o61_2.2.2.2.2 h _ _ _ hP hD hS (lv_sub hl [0, 1, 2, 3] rfl)
  unfold m_X6_layRows at h
  refine lv_aload_n hx hb dX6_layRows_0 rfl (lv_at hl 0 rfl) ?_
  refine lv_iconst (v := (0 : Int32)) hx hb dX6_layRows_1 k_iconst_0 ?_
  refine va_put (D := G) (ci := 6) (v := .int (0 : Int32)) (ty := .int) (C := RX6) (T := TX6) (N := 29) hx hb hts fi_X6_layRows_X6 tyX6 tyX6_ok nmX6 hown hEN.1 hP hD hS 0 rfl rfl 28 (by decide) (hts (.fieldLink RX6 264 "HourWellModel" "rowMany" "I") (List.mem_of_getElem? (i := 1) rfl)) (fun _ h9 => h9) rfl (by decide +kernel) rfl rfl (Nat.le_of_ble_eq_true rfl) dX6_layRows_2 (fun H locs hP hD hS => ?_)
  have hP : va_P G vwCl [oX6 aM (st vM 0 28 (0 : Int32)) vT, ai cI (aM 1) 70 (vM 1), ai cI (aM 2) 70 (vM 2), ai cI (aM 3) 40 (vM 3), ai cI (aM 4) 80 (vM 4), ai cZ (aM 5) 2 (vM 5), ai cI (aM 6) 200 (vM 6), ai cI (aM 8) 12 (vM 8), ai cI (aM 10) 12 (vM 10), ai cI (aM 18) 427 (vM 18), ai cI (aM 21) 100 (vM 21), ai cI (aM 23) 100 (vM 23), ai cI (aM 24) 100 (vM 24), ai cI (aM 26) 7 (vM 26), ai cI (aM 27) 5 (vM 27), ai cI (aM 28) 64 (vM 28)] H := hP
  have hD : va_D A [oX6 aM (st vM 0 28 (0 : Int32)) vT, ai cI (aM 1) 70 (vM 1), ai cI (aM 2) 70 (vM 2), ai cI (aM 3) 40 (vM 3), ai cI (aM 4) 80 (vM 4), ai cZ (aM 5) 2 (vM 5), ai cI (aM 6) 200 (vM 6), ai cI (aM 8) 12 (vM 8), ai cI (aM 10) 12 (vM 10), ai cI (aM 18) 427 (vM 18), ai cI (aM 21) 100 (vM 21), ai cI (aM 23) 100 (vM 23), ai cI (aM 24) 100 (vM 24), ai cI (aM 26) 7 (vM 26), ai cI (aM 27) 5 (vM 27), ai cI (aM 28) 64 (vM 28)] := hD
  refine lv_iconst (v := (0 : Int32)) hx hb dX6_layRows_5 k_iconst_0 ?_
  refine lv_istore_n (lv' := [(2, .int (0 : Int32)), (0, .ref (aM 0)), (1, .int x1)]) hx hb dX6_layRows_6 rfl hl (by decide) rfl (fun ls hl => ?_)
  obtain ⟨o7_3, ho7_3, h⟩ := bnd_some h
  refine L7 o7_3 (fun o7_3e er H locs ls hP hD hS hl => ?_) FU (st vM 0 28 (0 : Int32)) x1 (0 : Int32) ho7_3 _ _ _ hP hD hS (lv_sub hl [1, 2, 0] rfl)
  subst er
  have hres := Option.some.inj h
  subst hres
  exact hRet 149 _ _ _ hP hD hS dX6_layRows_149
abbrev rm_X6_cupsAt : Room := { frames := 0, cells := 0, slots := 0, locals := 0 }
theorem fi_X6_cupsAt_X6 : ∀ w ∈ wsX60, w ∈ wsX6_cupsAt := fun _ h => List.mem_cons_of_mem _ (List.mem_append_right _ h)
theorem hdV_X6_cupsAt : yX6_cupsAt.cls = RX6 ∧ yX6_cupsAt.cls ≠ "java/lang/invoke/MethodHandle" ∧ yX6_cupsAt.cls ≠ "java/lang/invoke/VarHandle" ∧ (parseMethodDescriptor yX6_cupsAt.desc).map (fun d => d.parameters.length) = some 1 := by decide +kernel
set_option maxRecDepth 100000 in
set_option maxHeartbeats 4000000 in
theorem c_X6_cupsAt (l : Launch) (G : va_G) (cI cZ : ClassId) (aM : Nat → Nat) (vT : Int64) (vM : Ob) (x1 : Int32) (res : Int32) (h : m_X6_cupsAt vM x1 = some res) : Ct l yX6_cupsAt wsX6_cupsAt rm_X6_cupsAt G cI cZ [.ref (aM 0), .int x1] [oX6 aM vM vT, ai cI (aM 28) 64 (vM 28)] (some (.int res)) [oX6 aM vM vT, ai cI (aM 28) 64 (vM 28)] := by
  refine Ct.of_i (maxL := 4) (by decide) rfl (Nat.le_of_ble_eq_true rfl) ?_
  intro p e s m below meth c args hx hb hml hown hts A hA hEN hP hD hS Q hRet ls hl
  have hown : s.vm.findClass RX6 = some m.cls := hown
  have hl : lv_has ls 4 [(0, .ref (aM 0)), (1, .int x1)] := hl
  have L4 : ∀ (out : Int32), (∀ ex : Int32, out = ex → ∀ (H : Heap) (locs : List Loc) (ls : Array Slot), va_P G vwCl [oX6 aM vM vT, ai cI (aM 28) 64 (vM 28)] H → va_D A [oX6 aM vM vT, ai cI (aM 28) 64 (vM 28)] → va_S A s.heap H locs → lv_has ls 4 [(2, .int ex)] → W p l e rm_X6_cupsAt s m args below meth c H locs 0 0 Q (F0 m 36 ls [])) → ∀ (n : Nat) (x1 : Int32) (x2 : Int32) (x3 : Int32), m_X6_cupsAt_L4 vM n x1 x2 x3 = some out → ∀ (H : Heap) (locs : List Loc) (ls : Array Slot), va_P G vwCl [oX6 aM vM vT, ai cI (aM 28) 64 (vM 28)] H → va_D A [oX6 aM vM vT, ai cI (aM 28) 64 (vM 28)] → va_S A s.heap H locs → lv_has ls 4 [(0, .ref (aM 0)), (1, .int x1), (2, .int x2), (3, .int x3)] → W p l e rm_X6_cupsAt s m args below meth c H locs 0 0 Q (F0 m 4 ls []) := by
    intro out hKx
    intro n
    induction n with
    | zero => intro x1 x2 x3 h; exact nomatch (show (none : Option (Int32)) = some out from h)
    | succ n hrc =>
      intro x1 x2 x3 h H locs ls hP hD hS hl
      have h : m_X6_cupsAt_L4B vM (m_X6_cupsAt_L4 vM n) x1 x2 x3 = some out := h
      generalize m_X6_cupsAt_L4 vM n = rc at h hrc
      unfold m_X6_cupsAt_L4B at h
      refine lv_iload_n hx hb dX6_cupsAt_4 rfl (lv_at hl 3 rfl) ?_
      refine lv_aload_n hx hb dX6_cupsAt_5 rfl (lv_at hl 0 rfl) ?_
      refine va_get (D := G) (ci := 6) (v := .int (vM 0 28)) (C := RX6) (T := TX6) (N := 29) hx hb hts fi_X6_cupsAt_X6 hown hEN.1 hP 0 rfl rfl 28 (by decide) (hts (.fieldLink RX6 264 "HourWellModel" "rowMany" "I") (List.mem_of_getElem? (i := 1) rfl)) (fun _ h9 => h9) rfl dX6_cupsAt_6 ?_
      refine lv_icmp_ge (tgt := 36) hx hb dX6_cupsAt_9 (by decide) (fun c9 => ?_) (fun c9 => ?_)
      · have h := (if_pos c9).symm.trans h
        exact hKx _ (Option.some.inj h).symm _ _ _ hP hD hS (lv_sub hl [2] rfl)
      · have h := (if_neg c9).symm.trans h
        refine lv_iload_n hx hb dX6_cupsAt_12 rfl (lv_at hl 2 rfl) ?_
        refine lv_iconst (v := (1 : Int32)) hx hb dX6_cupsAt_13 k_iconst_1 ?_
        refine lv_aload_n hx hb dX6_cupsAt_14 rfl (lv_at hl 0 rfl) ?_
        refine va_get (D := G) (ci := 6) (v := .ref (aM 28)) (C := RX6) (T := TX6) (N := 29) hx hb hts fi_X6_cupsAt_X6 hown hEN.1 hP 0 rfl rfl 27 (by decide) (hts (.fieldLink RX6 53 "HourWellModel" "rows" "[I") (List.mem_of_getElem? (i := 2) rfl)) (fun _ h9 => h9) rfl dX6_cupsAt_15 ?_
        refine lv_iload_n hx hb dX6_cupsAt_18 rfl (lv_at hl 3 rfl) ?_
        obtain ⟨hg19, h⟩ := grd_some h
        refine va_iald (f := (vM 28)) hx hb hEN.1 hP 1 0 rfl rfl (inb_in hg19) dX6_cupsAt_19 ?_
        refine lv_iconst (v := (3 : Int32)) hx hb dX6_cupsAt_20 k_iconst_3 ?_
        refine lv_iload_n hx hb dX6_cupsAt_21 rfl (lv_at hl 1 rfl) ?_
        refine lv_imul hx hb dX6_cupsAt_22 ?_
        refine lv_ishr hx hb dX6_cupsAt_23 ?_
        refine lv_bipush (v := (7 : Int32)) hx hb dX6_cupsAt_24 k_bipush_7 ?_
        refine lv_iand hx hb dX6_cupsAt_26 ?_
        refine lv_ishl hx hb dX6_cupsAt_27 ?_
        refine lv_ior hx hb dX6_cupsAt_28 ?_
        refine lv_istore_n (lv' := [(2, .int (x2 ||| ((1 : Int32) <<< (((((vM 28) (Int32.toNatClampNeg x3)) >>> (((3 : Int32) * x1) &&& 31)) &&& (7 : Int32)) &&& 31)))), (0, .ref (aM 0)), (1, .int x1), (3, .int x3)]) hx hb dX6_cupsAt_29 rfl hl (by decide) rfl (fun ls hl => ?_)
        refine lv_iinc (v := (x3 + (1 : Int32))) (lv' := [(3, .int (x3 + (1 : Int32))), (2, .int (x2 ||| ((1 : Int32) <<< (((((vM 28) (Int32.toNatClampNeg x3)) >>> (((3 : Int32) * x1) &&& 31)) &&& (7 : Int32)) &&& 31)))), (0, .ref (aM 0)), (1, .int x1)]) hx hb dX6_cupsAt_30 hl (k := 3) rfl (congrArg (fun z => x3 + z) k_iconst_1) (by decide) rfl (fun ls hl => ?_)
        refine lv_goto (tgt := 4) hx hb dX6_cupsAt_33 (by decide) ?_
        exact hrc x1 (x2 ||| ((1 : Int32) <<< (((((vM 28) (Int32.toNatClampNeg x3)) >>> (((3 : Int32) * x1) &&& 31)) &&& (7 : Int32)) &&& 31))) (x3 + (1 : Int32)) h _ _ _ hP hD hS (lv_sub hl [2, 3, 1, 0] rfl)
  unfold m_X6_cupsAt at h
  refine lv_iconst (v := (0 : Int32)) hx hb dX6_cupsAt_0 k_iconst_0 ?_
  refine lv_istore_n (lv' := [(2, .int (0 : Int32)), (0, .ref (aM 0)), (1, .int x1)]) hx hb dX6_cupsAt_1 rfl hl (by decide) rfl (fun ls hl => ?_)
  refine lv_iconst (v := (0 : Int32)) hx hb dX6_cupsAt_2 k_iconst_0 ?_
  refine lv_istore_n (lv' := [(3, .int (0 : Int32)), (2, .int (0 : Int32)), (0, .ref (aM 0)), (1, .int x1)]) hx hb dX6_cupsAt_3 rfl hl (by decide) rfl (fun ls hl => ?_)
  obtain ⟨o4_1, ho4_1, h⟩ := bnd_some h
  refine L4 o4_1 (fun o4_1e er H locs ls hP hD hS hl => ?_) FU x1 (0 : Int32) (0 : Int32) ho4_1 _ _ _ hP hD hS (lv_sub hl [2, 3, 1, 0] rfl)
  subst er
  refine lv_iload_n hx hb dX6_cupsAt_36 rfl (lv_at hl 0 rfl) ?_
  have hres := Option.some.inj h
  subst hres
  exact hRet 37 _ _ _ hP hD hS dX6_cupsAt_37
abbrev rm_X6_lie : Room := { frames := 3, cells := 0, slots := 0, locals := 72 }
theorem fi_X6_lie_X6 : ∀ w ∈ wsX60, w ∈ wsX6_lie := fun _ h => List.mem_cons_of_mem _ (List.mem_append_right _ h)
theorem hdV_X6_lie : yX6_lie.cls = RX6 ∧ yX6_lie.cls ≠ "java/lang/invoke/MethodHandle" ∧ yX6_lie.cls ≠ "java/lang/invoke/VarHandle" ∧ (parseMethodDescriptor yX6_lie.desc).map (fun d => d.parameters.length) = some 2 := by decide +kernel
set_option maxRecDepth 100000 in
set_option maxHeartbeats 4000000 in
theorem c_X6_lie (l : Launch) (G : va_G) (cI cZ : ClassId) (aM : Nat → Nat) (vT : Int64) (vM : Ob) (x1 : Int32) (x2 : Int32) (res : Int32 × Ob) (h : m_X6_lie vM x1 x2 = some res) : Ct l yX6_lie wsX6_lie rm_X6_lie G cI cZ [.ref (aM 0), .int x1, .int x2] [oX6 aM vM vT, ai cI (aM 1) 70 (vM 1), ai cI (aM 2) 70 (vM 2), ai cI (aM 3) 40 (vM 3), ai cI (aM 4) 80 (vM 4), ai cZ (aM 5) 2 (vM 5), ai cI (aM 6) 200 (vM 6), ai cI (aM 8) 12 (vM 8), ai cI (aM 10) 12 (vM 10), ai cI (aM 18) 427 (vM 18), ai cI (aM 21) 100 (vM 21), ai cI (aM 23) 100 (vM 23), ai cI (aM 24) 100 (vM 24), ai cI (aM 26) 7 (vM 26), ai cI (aM 27) 5 (vM 27), ai cI (aM 28) 64 (vM 28)] (some (.int res.1)) [oX6 aM res.2 vT, ai cI (aM 1) 70 (res.2 1), ai cI (aM 2) 70 (res.2 2), ai cI (aM 3) 40 (res.2 3), ai cI (aM 4) 80 (res.2 4), ai cZ (aM 5) 2 (res.2 5), ai cI (aM 6) 200 (res.2 6), ai cI (aM 8) 12 (res.2 8), ai cI (aM 10) 12 (res.2 10), ai cI (aM 18) 427 (res.2 18), ai cI (aM 21) 100 (res.2 21), ai cI (aM 23) 100 (res.2 23), ai cI (aM 24) 100 (res.2 24), ai cI (aM 26) 7 (res.2 26), ai cI (aM 27) 5 (res.2 27), ai cI (aM 28) 64 (res.2 28)] := by
  refine Ct.of_i (maxL := 7) (by decide) rfl (Nat.le_of_ble_eq_true rfl) ?_
  intro p e s m below meth c args hx hb hml hown hts A hA hEN hP hD hS Q hRet ls hl
  have hown : s.vm.findClass RX6 = some m.cls := hown
  have hl : lv_has ls 7 [(0, .ref (aM 0)), (1, .int x1), (2, .int x2)] := hl
  have L129 : ∀ (out : Ob × Int32 × Int32), (∀ ex : Ob × Int32 × Int32, out = ex → ∀ (H : Heap) (locs : List Loc) (ls : Array Slot), va_P G vwCl [oX6 aM ex.1 vT, ai cI (aM 1) 70 (ex.1 1), ai cI (aM 2) 70 (ex.1 2), ai cI (aM 3) 40 (ex.1 3), ai cI (aM 4) 80 (ex.1 4), ai cZ (aM 5) 2 (ex.1 5), ai cI (aM 6) 200 (ex.1 6), ai cI (aM 8) 12 (ex.1 8), ai cI (aM 10) 12 (ex.1 10), ai cI (aM 18) 427 (ex.1 18), ai cI (aM 21) 100 (ex.1 21), ai cI (aM 23) 100 (ex.1 23), ai cI (aM 24) 100 (ex.1 24), ai cI (aM 26) 7 (ex.1 26), ai cI (aM 27) 5 (ex.1 27), ai cI (aM 28) 64 (ex.1 28)] H → va_D A [oX6 aM ex.1 vT, ai cI (aM 1) 70 (ex.1 1), ai cI (aM 2) 70 (ex.1 2), ai cI (aM 3) 40 (ex.1 3), ai cI (aM 4) 80 (ex.1 4), ai cZ (aM 5) 2 (ex.1 5), ai cI (aM 6) 200 (ex.1 6), ai cI (aM 8) 12 (ex.1 8), ai cI (aM 10) 12 (ex.1 10), ai cI (aM 18) 427 (ex.1 18), ai cI (aM 21) 100 (ex.1 21), ai cI (aM 23) 100 (ex.1 23), ai cI (aM 24) 100 (ex.1 24), ai cI (aM 26) 7 (ex.1 26), ai cI (aM 27) 5 (ex.1 27), ai cI (aM 28) 64 (ex.1 28)] → va_S A s.heap H locs → lv_has ls 7 [(3, .int ex.2.1), (4, .int ex.2.2)] → W p l e rm_X6_lie s m args below meth c H locs 0 0 Q (F0 m 158 ls [])) → ∀ (n : Nat) (vM : Ob) (x3 : Int32) (x4 : Int32) (x5 : Int32), m_X6_lie_L129  n vM x3 x4 x5 = some out → ∀ (H : Heap) (locs : List Loc) (ls : Array Slot), va_P G vwCl [oX6 aM vM vT, ai cI (aM 1) 70 (vM 1), ai cI (aM 2) 70 (vM 2), ai cI (aM 3) 40 (vM 3), ai cI (aM 4) 80 (vM 4), ai cZ (aM 5) 2 (vM 5), ai cI (aM 6) 200 (vM 6), ai cI (aM 8) 12 (vM 8), ai cI (aM 10) 12 (vM 10), ai cI (aM 18) 427 (vM 18), ai cI (aM 21) 100 (vM 21), ai cI (aM 23) 100 (vM 23), ai cI (aM 24) 100 (vM 24), ai cI (aM 26) 7 (vM 26), ai cI (aM 27) 5 (vM 27), ai cI (aM 28) 64 (vM 28)] H → va_D A [oX6 aM vM vT, ai cI (aM 1) 70 (vM 1), ai cI (aM 2) 70 (vM 2), ai cI (aM 3) 40 (vM 3), ai cI (aM 4) 80 (vM 4), ai cZ (aM 5) 2 (vM 5), ai cI (aM 6) 200 (vM 6), ai cI (aM 8) 12 (vM 8), ai cI (aM 10) 12 (vM 10), ai cI (aM 18) 427 (vM 18), ai cI (aM 21) 100 (vM 21), ai cI (aM 23) 100 (vM 23), ai cI (aM 24) 100 (vM 24), ai cI (aM 26) 7 (vM 26), ai cI (aM 27) 5 (vM 27), ai cI (aM 28) 64 (vM 28)] → va_S A s.heap H locs → lv_has ls 7 [(3, .int x3), (4, .int x4), (5, .int x5)] → W p l e rm_X6_lie s m args below meth c H locs 0 0 Q (F0 m 129 ls []) := by
    intro out hKx
    have j150 : ∀ (rc : Ob → Int32 → Int32 → Int32 → Option (Ob × Int32 × Int32)), (∀ (vM : Ob) (x3 : Int32) (x4 : Int32) (x5 : Int32), rc vM x3 x4 x5 = some out → ∀ (H : Heap) (locs : List Loc) (ls : Array Slot), va_P G vwCl [oX6 aM vM vT, ai cI (aM 1) 70 (vM 1), ai cI (aM 2) 70 (vM 2), ai cI (aM 3) 40 (vM 3), ai cI (aM 4) 80 (vM 4), ai cZ (aM 5) 2 (vM 5), ai cI (aM 6) 200 (vM 6), ai cI (aM 8) 12 (vM 8), ai cI (aM 10) 12 (vM 10), ai cI (aM 18) 427 (vM 18), ai cI (aM 21) 100 (vM 21), ai cI (aM 23) 100 (vM 23), ai cI (aM 24) 100 (vM 24), ai cI (aM 26) 7 (vM 26), ai cI (aM 27) 5 (vM 27), ai cI (aM 28) 64 (vM 28)] H → va_D A [oX6 aM vM vT, ai cI (aM 1) 70 (vM 1), ai cI (aM 2) 70 (vM 2), ai cI (aM 3) 40 (vM 3), ai cI (aM 4) 80 (vM 4), ai cZ (aM 5) 2 (vM 5), ai cI (aM 6) 200 (vM 6), ai cI (aM 8) 12 (vM 8), ai cI (aM 10) 12 (vM 10), ai cI (aM 18) 427 (vM 18), ai cI (aM 21) 100 (vM 21), ai cI (aM 23) 100 (vM 23), ai cI (aM 24) 100 (vM 24), ai cI (aM 26) 7 (vM 26), ai cI (aM 27) 5 (vM 27), ai cI (aM 28) 64 (vM 28)] → va_S A s.heap H locs → lv_has ls 7 [(3, .int x3), (4, .int x4), (5, .int x5)] → W p l e rm_X6_lie s m args below meth c H locs 0 0 Q (F0 m 129 ls [])) → ∀ (vM : Ob) (x3 : Int32) (x5 : Int32) (s0 : Int32), m_X6_lie_j150  rc vM x3 x5 s0 = some out → ∀ (H : Heap) (locs : List Loc) (ls : Array Slot), va_P G vwCl [oX6 aM vM vT, ai cI (aM 1) 70 (vM 1), ai cI (aM 2) 70 (vM 2), ai cI (aM 3) 40 (vM 3), ai cI (aM 4) 80 (vM 4), ai cZ (aM 5) 2 (vM 5), ai cI (aM 6) 200 (vM 6), ai cI (aM 8) 12 (vM 8), ai cI (aM 10) 12 (vM 10), ai cI (aM 18) 427 (vM 18), ai cI (aM 21) 100 (vM 21), ai cI (aM 23) 100 (vM 23), ai cI (aM 24) 100 (vM 24), ai cI (aM 26) 7 (vM 26), ai cI (aM 27) 5 (vM 27), ai cI (aM 28) 64 (vM 28)] H → va_D A [oX6 aM vM vT, ai cI (aM 1) 70 (vM 1), ai cI (aM 2) 70 (vM 2), ai cI (aM 3) 40 (vM 3), ai cI (aM 4) 80 (vM 4), ai cZ (aM 5) 2 (vM 5), ai cI (aM 6) 200 (vM 6), ai cI (aM 8) 12 (vM 8), ai cI (aM 10) 12 (vM 10), ai cI (aM 18) 427 (vM 18), ai cI (aM 21) 100 (vM 21), ai cI (aM 23) 100 (vM 23), ai cI (aM 24) 100 (vM 24), ai cI (aM 26) 7 (vM 26), ai cI (aM 27) 5 (vM 27), ai cI (aM 28) 64 (vM 28)] → va_S A s.heap H locs → lv_has ls 7 [(3, .int x3), (5, .int x5)] → W p l e rm_X6_lie s m args below meth c H locs 0 0 Q (F0 m 150 ls [.int s0]) := by
      intro rc hrc vM x3 x5 s0 h H locs ls hP hD hS hl
      unfold m_X6_lie_j150 at h
      refine lv_istore (lv' := [(4, .int s0), (3, .int x3), (5, .int x5)]) hx hb dX6_lie_150 hl (by decide) rfl (fun ls hl => ?_)
      refine lv_iinc (v := (x5 + (1 : Int32))) (lv' := [(5, .int (x5 + (1 : Int32))), (4, .int s0), (3, .int x3)]) hx hb dX6_lie_152 hl (k := 2) rfl (congrArg (fun z => x5 + z) k_iconst_1) (by decide) rfl (fun ls hl => ?_)
      refine lv_goto (tgt := 129) hx hb dX6_lie_155 (by decide) ?_
      exact hrc vM x3 s0 (x5 + (1 : Int32)) h _ _ _ hP hD hS (lv_sub hl [2, 1, 0] rfl)
    intro n
    induction n with
    | zero => intro vM x3 x4 x5 h; exact nomatch (show (none : Option (Ob × Int32 × Int32)) = some out from h)
    | succ n hrc =>
      intro vM x3 x4 x5 h H locs ls hP hD hS hl
      have h : m_X6_lie_L129B  (m_X6_lie_L129  n) vM x3 x4 x5 = some out := h
      generalize m_X6_lie_L129  n = rc at h hrc
      unfold m_X6_lie_L129B at h
      refine lv_iload hx hb dX6_lie_129 (lv_at hl 2 rfl) ?_
      refine lv_iconst (v := (5 : Int32)) hx hb dX6_lie_131 k_iconst_5 ?_
      refine lv_icmp_ge (tgt := 158) hx hb dX6_lie_132 (by decide) (fun c132 => ?_) (fun c132 => ?_)
      · have h := (if_pos c132).symm.trans h
        exact hKx _ (Option.some.inj h).symm _ _ _ hP hD hS (lv_sub hl [0, 1] rfl)
      · have h := (if_neg c132).symm.trans h
        refine lv_iload_n hx hb dX6_lie_135 rfl (lv_at hl 0 rfl) ?_
        refine lv_iconst (v := (1 : Int32)) hx hb dX6_lie_136 k_iconst_1 ?_
        refine lv_iload hx hb dX6_lie_137 (lv_at hl 2 rfl) ?_
        refine lv_ishl hx hb dX6_lie_139 ?_
        refine lv_icmp_ne (tgt := 148) hx hb dX6_lie_140 (by decide) (fun c140 => ?_) (fun c140 => ?_)
        · have h := (if_neg c140).symm.trans h
          refine lv_iload hx hb dX6_lie_148 (lv_at hl 1 rfl) ?_
          exact j150 rc hrc vM x3 x5 x4 h _ _ _ hP hD hS (lv_sub hl [0, 2] rfl)
        · have h := (if_pos c140).symm.trans h
          refine lv_iload hx hb dX6_lie_143 (lv_at hl 2 rfl) ?_
          refine lv_goto (tgt := 150) hx hb dX6_lie_145 (by decide) ?_
          exact j150 rc hrc vM x3 x5 x5 h _ _ _ hP hD hS (lv_sub hl [0, 2] rfl)
  have L61 : ∀ (out : Ob × Int32), (∀ ex : Ob × Int32, out = ex → ∀ (H : Heap) (locs : List Loc) (ls : Array Slot), va_P G vwCl [oX6 aM ex.1 vT, ai cI (aM 1) 70 (ex.1 1), ai cI (aM 2) 70 (ex.1 2), ai cI (aM 3) 40 (ex.1 3), ai cI (aM 4) 80 (ex.1 4), ai cZ (aM 5) 2 (ex.1 5), ai cI (aM 6) 200 (ex.1 6), ai cI (aM 8) 12 (ex.1 8), ai cI (aM 10) 12 (ex.1 10), ai cI (aM 18) 427 (ex.1 18), ai cI (aM 21) 100 (ex.1 21), ai cI (aM 23) 100 (ex.1 23), ai cI (aM 24) 100 (ex.1 24), ai cI (aM 26) 7 (ex.1 26), ai cI (aM 27) 5 (ex.1 27), ai cI (aM 28) 64 (ex.1 28)] H → va_D A [oX6 aM ex.1 vT, ai cI (aM 1) 70 (ex.1 1), ai cI (aM 2) 70 (ex.1 2), ai cI (aM 3) 40 (ex.1 3), ai cI (aM 4) 80 (ex.1 4), ai cZ (aM 5) 2 (ex.1 5), ai cI (aM 6) 200 (ex.1 6), ai cI (aM 8) 12 (ex.1 8), ai cI (aM 10) 12 (ex.1 10), ai cI (aM 18) 427 (ex.1 18), ai cI (aM 21) 100 (ex.1 21), ai cI (aM 23) 100 (ex.1 23), ai cI (aM 24) 100 (ex.1 24), ai cI (aM 26) 7 (ex.1 26), ai cI (aM 27) 5 (ex.1 27), ai cI (aM 28) 64 (ex.1 28)] → va_S A s.heap H locs → lv_has ls 7 [(3, .int ex.2)] → W p l e rm_X6_lie s m args below meth c H locs 0 0 Q (F0 m 114 ls [])) → ∀ (n : Nat) (vM : Ob) (x1 : Int32) (x3 : Int32) (x4 : Int32) (x5 : Int32), m_X6_lie_L61  n vM x1 x3 x4 x5 = some out → ∀ (H : Heap) (locs : List Loc) (ls : Array Slot), va_P G vwCl [oX6 aM vM vT, ai cI (aM 1) 70 (vM 1), ai cI (aM 2) 70 (vM 2), ai cI (aM 3) 40 (vM 3), ai cI (aM 4) 80 (vM 4), ai cZ (aM 5) 2 (vM 5), ai cI (aM 6) 200 (vM 6), ai cI (aM 8) 12 (vM 8), ai cI (aM 10) 12 (vM 10), ai cI (aM 18) 427 (vM 18), ai cI (aM 21) 100 (vM 21), ai cI (aM 23) 100 (vM 23), ai cI (aM 24) 100 (vM 24), ai cI (aM 26) 7 (vM 26), ai cI (aM 27) 5 (vM 27), ai cI (aM 28) 64 (vM 28)] H → va_D A [oX6 aM vM vT, ai cI (aM 1) 70 (vM 1), ai cI (aM 2) 70 (vM 2), ai cI (aM 3) 40 (vM 3), ai cI (aM 4) 80 (vM 4), ai cZ (aM 5) 2 (vM 5), ai cI (aM 6) 200 (vM 6), ai cI (aM 8) 12 (vM 8), ai cI (aM 10) 12 (vM 10), ai cI (aM 18) 427 (vM 18), ai cI (aM 21) 100 (vM 21), ai cI (aM 23) 100 (vM 23), ai cI (aM 24) 100 (vM 24), ai cI (aM 26) 7 (vM 26), ai cI (aM 27) 5 (vM 27), ai cI (aM 28) 64 (vM 28)] → va_S A s.heap H locs → lv_has ls 7 [(0, .ref (aM 0)), (1, .int x1), (3, .int x3), (4, .int x4), (5, .int x5)] → W p l e rm_X6_lie s m args below meth c H locs 0 0 Q (F0 m 61 ls []) := by
    intro out hKx
    have j106 : ∀ (rc : Ob → Int32 → Int32 → Int32 → Int32 → Option (Ob × Int32)), (∀ (vM : Ob) (x1 : Int32) (x3 : Int32) (x4 : Int32) (x5 : Int32), rc vM x1 x3 x4 x5 = some out → ∀ (H : Heap) (locs : List Loc) (ls : Array Slot), va_P G vwCl [oX6 aM vM vT, ai cI (aM 1) 70 (vM 1), ai cI (aM 2) 70 (vM 2), ai cI (aM 3) 40 (vM 3), ai cI (aM 4) 80 (vM 4), ai cZ (aM 5) 2 (vM 5), ai cI (aM 6) 200 (vM 6), ai cI (aM 8) 12 (vM 8), ai cI (aM 10) 12 (vM 10), ai cI (aM 18) 427 (vM 18), ai cI (aM 21) 100 (vM 21), ai cI (aM 23) 100 (vM 23), ai cI (aM 24) 100 (vM 24), ai cI (aM 26) 7 (vM 26), ai cI (aM 27) 5 (vM 27), ai cI (aM 28) 64 (vM 28)] H → va_D A [oX6 aM vM vT, ai cI (aM 1) 70 (vM 1), ai cI (aM 2) 70 (vM 2), ai cI (aM 3) 40 (vM 3), ai cI (aM 4) 80 (vM 4), ai cZ (aM 5) 2 (vM 5), ai cI (aM 6) 200 (vM 6), ai cI (aM 8) 12 (vM 8), ai cI (aM 10) 12 (vM 10), ai cI (aM 18) 427 (vM 18), ai cI (aM 21) 100 (vM 21), ai cI (aM 23) 100 (vM 23), ai cI (aM 24) 100 (vM 24), ai cI (aM 26) 7 (vM 26), ai cI (aM 27) 5 (vM 27), ai cI (aM 28) 64 (vM 28)] → va_S A s.heap H locs → lv_has ls 7 [(0, .ref (aM 0)), (1, .int x1), (3, .int x3), (4, .int x4), (5, .int x5)] → W p l e rm_X6_lie s m args below meth c H locs 0 0 Q (F0 m 61 ls [])) → ∀ (vM : Ob) (x1 : Int32) (x3 : Int32) (x5 : Int32) (s0 : Int32), m_X6_lie_j106  rc vM x1 x3 x5 s0 = some out → ∀ (H : Heap) (locs : List Loc) (ls : Array Slot), va_P G vwCl [oX6 aM vM vT, ai cI (aM 1) 70 (vM 1), ai cI (aM 2) 70 (vM 2), ai cI (aM 3) 40 (vM 3), ai cI (aM 4) 80 (vM 4), ai cZ (aM 5) 2 (vM 5), ai cI (aM 6) 200 (vM 6), ai cI (aM 8) 12 (vM 8), ai cI (aM 10) 12 (vM 10), ai cI (aM 18) 427 (vM 18), ai cI (aM 21) 100 (vM 21), ai cI (aM 23) 100 (vM 23), ai cI (aM 24) 100 (vM 24), ai cI (aM 26) 7 (vM 26), ai cI (aM 27) 5 (vM 27), ai cI (aM 28) 64 (vM 28)] H → va_D A [oX6 aM vM vT, ai cI (aM 1) 70 (vM 1), ai cI (aM 2) 70 (vM 2), ai cI (aM 3) 40 (vM 3), ai cI (aM 4) 80 (vM 4), ai cZ (aM 5) 2 (vM 5), ai cI (aM 6) 200 (vM 6), ai cI (aM 8) 12 (vM 8), ai cI (aM 10) 12 (vM 10), ai cI (aM 18) 427 (vM 18), ai cI (aM 21) 100 (vM 21), ai cI (aM 23) 100 (vM 23), ai cI (aM 24) 100 (vM 24), ai cI (aM 26) 7 (vM 26), ai cI (aM 27) 5 (vM 27), ai cI (aM 28) 64 (vM 28)] → va_S A s.heap H locs → lv_has ls 7 [(0, .ref (aM 0)), (1, .int x1), (3, .int x3), (5, .int x5)] → W p l e rm_X6_lie s m args below meth c H locs 0 0 Q (F0 m 106 ls [.int s0]) := by
      intro rc hrc vM x1 x3 x5 s0 h H locs ls hP hD hS hl
      unfold m_X6_lie_j106 at h
      refine lv_istore (lv' := [(4, .int s0), (0, .ref (aM 0)), (1, .int x1), (3, .int x3), (5, .int x5)]) hx hb dX6_lie_106 hl (by decide) rfl (fun ls hl => ?_)
      refine lv_iinc (v := (x5 + (1 : Int32))) (lv' := [(5, .int (x5 + (1 : Int32))), (4, .int s0), (0, .ref (aM 0)), (1, .int x1), (3, .int x3)]) hx hb dX6_lie_108 hl (k := 4) rfl (congrArg (fun z => x5 + z) k_iconst_1) (by decide) rfl (fun ls hl => ?_)
      refine lv_goto (tgt := 61) hx hb dX6_lie_111 (by decide) ?_
      exact hrc vM x1 x3 s0 (x5 + (1 : Int32)) h _ _ _ hP hD hS (lv_sub hl [2, 3, 4, 1, 0] rfl)
    have j91 : ∀ (rc : Ob → Int32 → Int32 → Int32 → Int32 → Option (Ob × Int32)), (∀ (vM : Ob) (x1 : Int32) (x3 : Int32) (x4 : Int32) (x5 : Int32), rc vM x1 x3 x4 x5 = some out → ∀ (H : Heap) (locs : List Loc) (ls : Array Slot), va_P G vwCl [oX6 aM vM vT, ai cI (aM 1) 70 (vM 1), ai cI (aM 2) 70 (vM 2), ai cI (aM 3) 40 (vM 3), ai cI (aM 4) 80 (vM 4), ai cZ (aM 5) 2 (vM 5), ai cI (aM 6) 200 (vM 6), ai cI (aM 8) 12 (vM 8), ai cI (aM 10) 12 (vM 10), ai cI (aM 18) 427 (vM 18), ai cI (aM 21) 100 (vM 21), ai cI (aM 23) 100 (vM 23), ai cI (aM 24) 100 (vM 24), ai cI (aM 26) 7 (vM 26), ai cI (aM 27) 5 (vM 27), ai cI (aM 28) 64 (vM 28)] H → va_D A [oX6 aM vM vT, ai cI (aM 1) 70 (vM 1), ai cI (aM 2) 70 (vM 2), ai cI (aM 3) 40 (vM 3), ai cI (aM 4) 80 (vM 4), ai cZ (aM 5) 2 (vM 5), ai cI (aM 6) 200 (vM 6), ai cI (aM 8) 12 (vM 8), ai cI (aM 10) 12 (vM 10), ai cI (aM 18) 427 (vM 18), ai cI (aM 21) 100 (vM 21), ai cI (aM 23) 100 (vM 23), ai cI (aM 24) 100 (vM 24), ai cI (aM 26) 7 (vM 26), ai cI (aM 27) 5 (vM 27), ai cI (aM 28) 64 (vM 28)] → va_S A s.heap H locs → lv_has ls 7 [(0, .ref (aM 0)), (1, .int x1), (3, .int x3), (4, .int x4), (5, .int x5)] → W p l e rm_X6_lie s m args below meth c H locs 0 0 Q (F0 m 61 ls [])) → ∀ (vM : Ob) (x1 : Int32) (x4 : Int32) (x5 : Int32) (x6 : Int32) (s0 : Int32), m_X6_lie_j91  rc vM x1 x4 x5 x6 s0 = some out → ∀ (H : Heap) (locs : List Loc) (ls : Array Slot), va_P G vwCl [oX6 aM vM vT, ai cI (aM 1) 70 (vM 1), ai cI (aM 2) 70 (vM 2), ai cI (aM 3) 40 (vM 3), ai cI (aM 4) 80 (vM 4), ai cZ (aM 5) 2 (vM 5), ai cI (aM 6) 200 (vM 6), ai cI (aM 8) 12 (vM 8), ai cI (aM 10) 12 (vM 10), ai cI (aM 18) 427 (vM 18), ai cI (aM 21) 100 (vM 21), ai cI (aM 23) 100 (vM 23), ai cI (aM 24) 100 (vM 24), ai cI (aM 26) 7 (vM 26), ai cI (aM 27) 5 (vM 27), ai cI (aM 28) 64 (vM 28)] H → va_D A [oX6 aM vM vT, ai cI (aM 1) 70 (vM 1), ai cI (aM 2) 70 (vM 2), ai cI (aM 3) 40 (vM 3), ai cI (aM 4) 80 (vM 4), ai cZ (aM 5) 2 (vM 5), ai cI (aM 6) 200 (vM 6), ai cI (aM 8) 12 (vM 8), ai cI (aM 10) 12 (vM 10), ai cI (aM 18) 427 (vM 18), ai cI (aM 21) 100 (vM 21), ai cI (aM 23) 100 (vM 23), ai cI (aM 24) 100 (vM 24), ai cI (aM 26) 7 (vM 26), ai cI (aM 27) 5 (vM 27), ai cI (aM 28) 64 (vM 28)] → va_S A s.heap H locs → lv_has ls 7 [(0, .ref (aM 0)), (1, .int x1), (4, .int x4), (5, .int x5), (6, .int x6)] → W p l e rm_X6_lie s m args below meth c H locs 0 0 Q (F0 m 91 ls [.int s0]) := by
      intro rc hrc vM x1 x4 x5 x6 s0 h H locs ls hP hD hS hl
      unfold m_X6_lie_j91 at h
      refine lv_istore_n (lv' := [(3, .int s0), (0, .ref (aM 0)), (1, .int x1), (4, .int x4), (5, .int x5), (6, .int x6)]) hx hb dX6_lie_91 rfl hl (by decide) rfl (fun ls hl => ?_)
      refine lv_iload hx hb dX6_lie_92 (lv_at hl 5 rfl) ?_
      refine lv_iload hx hb dX6_lie_94 (lv_at hl 3 rfl) ?_
      refine lv_icmp_le (tgt := 104) hx hb dX6_lie_96 (by decide) (fun c96 => ?_) (fun c96 => ?_)
      · have h := (if_pos c96).symm.trans h
        refine lv_iload hx hb dX6_lie_104 (lv_at hl 3 rfl) ?_
        exact j106 rc hrc vM x1 s0 x5 x4 h _ _ _ hP hD hS (lv_sub hl [1, 2, 0, 4] rfl)
      · have h := (if_neg c96).symm.trans h
        refine lv_iload hx hb dX6_lie_99 (lv_at hl 5 rfl) ?_
        refine lv_goto (tgt := 106) hx hb dX6_lie_101 (by decide) ?_
        exact j106 rc hrc vM x1 s0 x5 x6 h _ _ _ hP hD hS (lv_sub hl [1, 2, 0, 4] rfl)
    intro n
    induction n with
    | zero => intro vM x1 x3 x4 x5 h; exact nomatch (show (none : Option (Ob × Int32)) = some out from h)
    | succ n hrc =>
      intro vM x1 x3 x4 x5 h H locs ls hP hD hS hl
      have h : m_X6_lie_L61B  (m_X6_lie_L61  n) vM x1 x3 x4 x5 = some out := h
      generalize m_X6_lie_L61  n = rc at h hrc
      unfold m_X6_lie_L61B at h
      refine lv_iload hx hb dX6_lie_61 (lv_at hl 4 rfl) ?_
      refine lv_iload_n hx hb dX6_lie_63 rfl (lv_at hl 1 rfl) ?_
      refine lv_icmp_ge (tgt := 114) hx hb dX6_lie_64 (by decide) (fun c64 => ?_) (fun c64 => ?_)
      · have h := (if_pos c64).symm.trans h
        exact hKx _ (Option.some.inj h).symm _ _ _ hP hD hS (lv_sub hl [2] rfl)
      · have h := (if_neg c64).symm.trans h
        refine lv_aload_n hx hb dX6_lie_67 rfl (lv_at hl 0 rfl) ?_
        refine lv_iload hx hb dX6_lie_68 (lv_at hl 4 rfl) ?_
        obtain ⟨o70, ho70, h⟩ := bnd_some h
        refine call_V0 (As := [.int x5]) (rest := []) ⟨hx, hb, hml, hown, hts⟩ (c_X6_cupsAt l G cI cZ aM vT vM x5 o70 ho70) (cwV 1 hts gX6_lie_X6_cupsAt rfl rfl rfl hdV_X6_cupsAt ⟨Nat.le_of_ble_eq_true rfl, Nat.le_of_ble_eq_true rfl⟩) hEN hA hP hD hS [0, 15] rfl (by decide) 0 rfl rfl rfl hl.1 rfl (Nat.le_of_ble_eq_true rfl) dX6_lie_70 ⟨Nat.le_of_ble_eq_true rfl, Nat.le_of_ble_eq_true rfl⟩ (fun H locs hP hS => ?_)
        obtain ⟨o73, ho73, h⟩ := bnd_some h
        refine call_S0 (As := [.int o70]) (rest := []) ⟨hx, hb, hml, hown, hts⟩ (c_X6_bits l G cI cZ  o70 o73 ho73) (va_cwS 1 hts gX6_lie_X6_bits rfl rfl rfl hdS_X6_bits ⟨Nat.le_of_ble_eq_true rfl, Nat.le_of_ble_eq_true rfl⟩) hEN hA hP hD hS [] rfl (by decide) rfl hl.1 rfl (Nat.le_of_ble_eq_true rfl) dX6_lie_73 ⟨Nat.le_of_ble_eq_true rfl, Nat.le_of_ble_eq_true rfl⟩ (fun H locs hP hS => ?_)
        refine lv_istore (lv' := [(6, .int o73), (0, .ref (aM 0)), (1, .int x1), (3, .int x3), (4, .int x4), (5, .int x5)]) hx hb dX6_lie_76 hl (by decide) rfl (fun ls hl => ?_)
        refine lv_iload hx hb dX6_lie_78 (lv_at hl 0 rfl) ?_
        refine lv_iload hx hb dX6_lie_80 (lv_at hl 4 rfl) ?_
        refine lv_icmp_le (tgt := 90) hx hb dX6_lie_82 (by decide) (fun c82 => ?_) (fun c82 => ?_)
        · have h := (if_pos c82).symm.trans h
          refine lv_iload_n hx hb dX6_lie_90 rfl (lv_at hl 3 rfl) ?_
          exact j91 rc hrc vM x1 x4 x5 o73 x3 h _ _ _ hP hD hS (lv_sub hl [1, 2, 4, 5, 0] rfl)
        · have h := (if_neg c82).symm.trans h
          refine lv_iload hx hb dX6_lie_85 (lv_at hl 5 rfl) ?_
          refine lv_goto (tgt := 91) hx hb dX6_lie_87 (by decide) ?_
          exact j91 rc hrc vM x1 x4 x5 o73 x5 h _ _ _ hP hD hS (lv_sub hl [1, 2, 4, 5, 0] rfl)
  unfold m_X6_lie at h
  refine lv_iload_n hx hb dX6_lie_0 rfl (lv_at hl 1 rfl) ?_
  refine lv_i2l (v := (Int32.toInt64 x1)) hx hb dX6_lie_1 rfl ?_
  refine lv_ldc2 (v := (2 : Int64)) hx hb hown (hts (.constantLong RX6 156 (2)) (List.mem_of_getElem? (i := 1) rfl)) dX6_lie_2 ?_
  refine lv_ldc2 (v := (5 : Int64)) hx hb hown (hts (.constantLong RX6 116 (5)) (List.mem_of_getElem? (i := 2) rfl)) dX6_lie_5 ?_
  obtain ⟨o8, ho8, h⟩ := bnd_some h
  refine call_S0 (As := [.long (Int32.toInt64 x1), .long (2 : Int64), .long (5 : Int64)]) (rest := []) ⟨hx, hb, hml, hown, hts⟩ (c_X6_in l G cI cZ  (Int32.toInt64 x1) (2 : Int64) (5 : Int64) o8 ho8) (va_cwS 3 hts gX6_lie_X6_in rfl rfl rfl hdS_X6_in ⟨Nat.le_of_ble_eq_true rfl, Nat.le_of_ble_eq_true rfl⟩) hEN hA hP hD hS [] rfl (by decide) rfl hl.1 rfl (Nat.le_of_ble_eq_true rfl) dX6_lie_8 ⟨Nat.le_of_ble_eq_true rfl, Nat.le_of_ble_eq_true rfl⟩ (fun H locs hP hS => ?_)
  refine lv_if_eq (tgt := 29) hx hb dX6_lie_11 (by decide) (fun c11 => ?_) (fun c11 => ?_)
  · have h := (if_pos c11).symm.trans h
    refine lv_iconst (v := (-1 : Int32)) hx hb dX6_lie_29 k_iconst_n1 ?_
    have hres := Option.some.inj h
    subst hres
    exact hRet 30 _ _ _ hP hD hS dX6_lie_30
  · have h := (if_neg c11).symm.trans h
    refine lv_iload_n hx hb dX6_lie_14 rfl (lv_at hl 2 rfl) ?_
    refine lv_i2l (v := (Int32.toInt64 x2)) hx hb dX6_lie_15 rfl ?_
    refine lv_ldc2 (v := (-2 : Int64)) hx hb hown (hts (.constantLong RX6 270 (-2)) (List.mem_of_getElem? (i := 3) rfl)) dX6_lie_16 ?_
    refine lv_iload_n hx hb dX6_lie_19 rfl (lv_at hl 1 rfl) ?_
    refine lv_iconst (v := (1 : Int32)) hx hb dX6_lie_20 k_iconst_1 ?_
    refine lv_isub hx hb dX6_lie_21 ?_
    refine lv_i2l (v := (Int32.toInt64 (x1 - (1 : Int32)))) hx hb dX6_lie_22 rfl ?_
    obtain ⟨o23, ho23, h⟩ := bnd_some h
    refine call_S0 (As := [.long (Int32.toInt64 x2), .long (-2 : Int64), .long (Int32.toInt64 (x1 - (1 : Int32)))]) (rest := []) ⟨hx, hb, hml, hown, hts⟩ (c_X6_in l G cI cZ  (Int32.toInt64 x2) (-2 : Int64) (Int32.toInt64 (x1 - (1 : Int32))) o23 ho23) (va_cwS 3 hts gX6_lie_X6_in rfl rfl rfl hdS_X6_in ⟨Nat.le_of_ble_eq_true rfl, Nat.le_of_ble_eq_true rfl⟩) hEN hA hP hD hS [] rfl (by decide) rfl hl.1 rfl (Nat.le_of_ble_eq_true rfl) dX6_lie_23 ⟨Nat.le_of_ble_eq_true rfl, Nat.le_of_ble_eq_true rfl⟩ (fun H locs hP hS => ?_)
    refine lv_if_ne (tgt := 31) hx hb dX6_lie_26 (by decide) (fun c26 => ?_) (fun c26 => ?_)
    · have h := (if_neg c26).symm.trans h
      refine lv_aload_n hx hb dX6_lie_31 rfl (lv_at hl 0 rfl) ?_
      refine lv_iload_n hx hb dX6_lie_32 rfl (lv_at hl 1 rfl) ?_
      obtain ⟨o33, ho33, h⟩ := bnd_some h
      refine call_VJ (wr := []) (As := [.int x1]) (rest := []) ⟨hx, hb, hml, hown, hts⟩ (c_X6_layRows l G cI cZ aM vT vM x1 o33 ho33) (cwV 1 hts gX6_lie_X6_layRows rfl rfl rfl hdV_X6_layRows ⟨Nat.le_of_ble_eq_true rfl, Nat.le_of_ble_eq_true rfl⟩) hEN hA hP hD hS [0, 1, 2, 3, 4, 5, 6, 7, 8, 9, 10, 11, 12, 13, 14, 15] [] rfl (by decide) rfl (by decide) (by decide) 0 rfl rfl rfl hl.1 rfl (Nat.le_of_ble_eq_true rfl) dX6_lie_33 ⟨Nat.le_of_ble_eq_true rfl, Nat.le_of_ble_eq_true rfl⟩ (fun H locs hP hD hS => ?_)
      have hP : va_P G vwCl [oX6 aM o33 vT, ai cI (aM 1) 70 (o33 1), ai cI (aM 2) 70 (o33 2), ai cI (aM 3) 40 (o33 3), ai cI (aM 4) 80 (o33 4), ai cZ (aM 5) 2 (o33 5), ai cI (aM 6) 200 (o33 6), ai cI (aM 8) 12 (o33 8), ai cI (aM 10) 12 (o33 10), ai cI (aM 18) 427 (o33 18), ai cI (aM 21) 100 (o33 21), ai cI (aM 23) 100 (o33 23), ai cI (aM 24) 100 (o33 24), ai cI (aM 26) 7 (o33 26), ai cI (aM 27) 5 (o33 27), ai cI (aM 28) 64 (o33 28)] H := hP
      have hD : va_D A [oX6 aM o33 vT, ai cI (aM 1) 70 (o33 1), ai cI (aM 2) 70 (o33 2), ai cI (aM 3) 40 (o33 3), ai cI (aM 4) 80 (o33 4), ai cZ (aM 5) 2 (o33 5), ai cI (aM 6) 200 (o33 6), ai cI (aM 8) 12 (o33 8), ai cI (aM 10) 12 (o33 10), ai cI (aM 18) 427 (o33 18), ai cI (aM 21) 100 (o33 21), ai cI (aM 23) 100 (o33 23), ai cI (aM 24) 100 (o33 24), ai cI (aM 26) 7 (o33 26), ai cI (aM 27) 5 (o33 27), ai cI (aM 28) 64 (o33 28)] := hD
      refine lv_iload_n hx hb dX6_lie_36 rfl (lv_at hl 2 rfl) ?_
      refine lv_iconst (v := (-1 : Int32)) hx hb dX6_lie_37 k_iconst_n1 ?_
      refine lv_icmp_ne (tgt := 46) hx hb dX6_lie_38 (by decide) (fun c38 => ?_) (fun c38 => ?_)
      · have h := (if_neg c38).symm.trans h
        refine lv_iload_n hx hb dX6_lie_46 rfl (lv_at hl 2 rfl) ?_
        refine lv_bipush (v := (-2 : Int32)) hx hb dX6_lie_47 k_bipush_n2 ?_
        refine lv_icmp_ne (tgt := 116) hx hb dX6_lie_49 (by decide) (fun c49 => ?_) (fun c49 => ?_)
        · have h := (if_neg c49).symm.trans h
          refine lv_aload_n hx hb dX6_lie_116 rfl (lv_at hl 0 rfl) ?_
          refine lv_iload_n hx hb dX6_lie_117 rfl (lv_at hl 2 rfl) ?_
          obtain ⟨o118, ho118, h⟩ := bnd_some h
          refine call_V0 (As := [.int x2]) (rest := []) ⟨hx, hb, hml, hown, hts⟩ (c_X6_cupsAt l G cI cZ aM vT o33 x2 o118 ho118) (cwV 1 hts gX6_lie_X6_cupsAt rfl rfl rfl hdV_X6_cupsAt ⟨Nat.le_of_ble_eq_true rfl, Nat.le_of_ble_eq_true rfl⟩) hEN hA hP hD hS [0, 15] rfl (by decide) 0 rfl rfl rfl hl.1 rfl (Nat.le_of_ble_eq_true rfl) dX6_lie_118 ⟨Nat.le_of_ble_eq_true rfl, Nat.le_of_ble_eq_true rfl⟩ (fun H locs hP hS => ?_)
          refine lv_istore_n (lv' := [(3, .int o118), (0, .ref (aM 0)), (1, .int x1), (2, .int x2)]) hx hb dX6_lie_121 rfl hl (by decide) rfl (fun ls hl => ?_)
          refine lv_bipush (v := (-9 : Int32)) hx hb dX6_lie_122 k_bipush_n9 ?_
          refine lv_istore (lv' := [(4, .int (-9 : Int32)), (3, .int o118), (0, .ref (aM 0)), (1, .int x1), (2, .int x2)]) hx hb dX6_lie_124 hl (by decide) rfl (fun ls hl => ?_)
          refine lv_iconst (v := (0 : Int32)) hx hb dX6_lie_126 k_iconst_0 ?_
          refine lv_istore (lv' := [(5, .int (0 : Int32)), (4, .int (-9 : Int32)), (3, .int o118), (0, .ref (aM 0)), (1, .int x1), (2, .int x2)]) hx hb dX6_lie_127 hl (by decide) rfl (fun ls hl => ?_)
          obtain ⟨o129_1, ho129_1, h⟩ := bnd_some h
          refine L129 o129_1 (fun o129_1e er H locs ls hP hD hS hl => ?_) FU o33 o118 (-9 : Int32) (0 : Int32) ho129_1 _ _ _ hP hD hS (lv_sub hl [2, 1, 0] rfl)
          subst er
          refine lv_iload_n hx hb dX6_lie_158 rfl (lv_at hl 0 rfl) ?_
          obtain ⟨o159, ho159, h⟩ := bnd_some h
          refine call_S0 (As := [.int o129_1.2.1]) (rest := []) ⟨hx, hb, hml, hown, hts⟩ (c_X6_bits l G cI cZ  o129_1.2.1 o159 ho159) (va_cwS 1 hts gX6_lie_X6_bits rfl rfl rfl hdS_X6_bits ⟨Nat.le_of_ble_eq_true rfl, Nat.le_of_ble_eq_true rfl⟩) hEN hA hP hD hS [] rfl (by decide) rfl hl.1 rfl (Nat.le_of_ble_eq_true rfl) dX6_lie_159 ⟨Nat.le_of_ble_eq_true rfl, Nat.le_of_ble_eq_true rfl⟩ (fun H locs hP hS => ?_)
          refine lv_iconst (v := (1 : Int32)) hx hb dX6_lie_162 k_iconst_1 ?_
          refine lv_icmp_le (tgt := 171) hx hb dX6_lie_163 (by decide) (fun c163 => ?_) (fun c163 => ?_)
          · have h := (if_pos c163).symm.trans h
            refine lv_iload hx hb dX6_lie_171 (lv_at hl 1 rfl) ?_
            have hres := Option.some.inj h
            subst hres
            exact hRet 173 _ _ _ hP hD hS dX6_lie_173
          · have h := (if_neg c163).symm.trans h
            refine lv_bipush (v := (-5 : Int32)) hx hb dX6_lie_166 k_bipush_n5 ?_
            refine lv_goto (tgt := 173) hx hb dX6_lie_168 (by decide) ?_
            have hres := Option.some.inj h
            subst hres
            exact hRet 173 _ _ _ hP hD hS dX6_lie_173
        · have h := (if_pos c49).symm.trans h
          refine lv_bipush (v := (-9 : Int32)) hx hb dX6_lie_52 k_bipush_n9 ?_
          refine lv_istore_n (lv' := [(3, .int (-9 : Int32)), (0, .ref (aM 0)), (1, .int x1), (2, .int x2)]) hx hb dX6_lie_54 rfl hl (by decide) rfl (fun ls hl => ?_)
          refine lv_iconst (v := (1 : Int32)) hx hb dX6_lie_55 k_iconst_1 ?_
          refine lv_istore (lv' := [(4, .int (1 : Int32)), (3, .int (-9 : Int32)), (0, .ref (aM 0)), (1, .int x1), (2, .int x2)]) hx hb dX6_lie_56 hl (by decide) rfl (fun ls hl => ?_)
          refine lv_iconst (v := (0 : Int32)) hx hb dX6_lie_58 k_iconst_0 ?_
          refine lv_istore (lv' := [(5, .int (0 : Int32)), (4, .int (1 : Int32)), (3, .int (-9 : Int32)), (0, .ref (aM 0)), (1, .int x1), (2, .int x2)]) hx hb dX6_lie_59 hl (by decide) rfl (fun ls hl => ?_)
          obtain ⟨o61_2, ho61_2, h⟩ := bnd_some h
          refine L61 o61_2 (fun o61_2e er H locs ls hP hD hS hl => ?_) FU o33 x1 (-9 : Int32) (1 : Int32) (0 : Int32) ho61_2 _ _ _ hP hD hS (lv_sub hl [3, 4, 2, 1, 0] rfl)
          subst er
          refine lv_iload_n hx hb dX6_lie_114 rfl (lv_at hl 0 rfl) ?_
          have hres := Option.some.inj h
          subst hres
          exact hRet 115 _ _ _ hP hD hS dX6_lie_115
      · have h := (if_pos c38).symm.trans h
        refine lv_aload_n hx hb dX6_lie_41 rfl (lv_at hl 0 rfl) ?_
        refine va_get (D := G) (ci := 6) (v := .int (o33 0 28)) (C := RX6) (T := TX6) (N := 29) hx hb hts fi_X6_lie_X6 hown hEN.1 hP 0 rfl rfl 28 (by decide) (hts (.fieldLink RX6 264 "HourWellModel" "rowMany" "I") (List.mem_of_getElem? (i := 4) rfl)) (fun _ h9 => h9) rfl dX6_lie_42 ?_
        have hres := Option.some.inj h
        subst hres
        exact hRet 45 _ _ _ hP hD hS dX6_lie_45
    · have h := (if_pos c26).symm.trans h
      refine lv_iconst (v := (-1 : Int32)) hx hb dX6_lie_29 k_iconst_n1 ?_
      have hres := Option.some.inj h
      subst hres
      exact hRet 30 _ _ _ hP hD hS dX6_lie_30
abbrev rm_X6_mark : Room := { frames := 2, cells := 0, slots := 0, locals := 46 }
theorem fi_X6_mark_X6 : ∀ w ∈ wsX60, w ∈ wsX6_mark := fun _ h => List.mem_cons_of_mem _ (List.mem_append_right _ h)
theorem hdV_X6_mark : yX6_mark.cls = RX6 ∧ yX6_mark.cls ≠ "java/lang/invoke/MethodHandle" ∧ yX6_mark.cls ≠ "java/lang/invoke/VarHandle" ∧ (parseMethodDescriptor yX6_mark.desc).map (fun d => d.parameters.length) = some 2 := by decide +kernel
set_option maxRecDepth 100000 in
set_option maxHeartbeats 4000000 in
theorem c_X6_mark (l : Launch) (G : va_G) (cI cZ : ClassId) (aM : Nat → Nat) (vM : Ob) (vT : Int64) (x1 : Int32) (x2 : Int32) (res : Int32 × Int64) (h : m_X6_mark vM vT x1 x2 = some res) : Ct l yX6_mark wsX6_mark rm_X6_mark G cI cZ [.ref (aM 0), .int x1, .int x2] [oX6 aM vM vT, ai cI (aM 1) 70 (vM 1), ai cI (aM 3) 40 (vM 3)] (some (.int res.1)) [oX6 aM vM res.2, ai cI (aM 1) 70 (vM 1), ai cI (aM 3) 40 (vM 3)] := by
  refine Ct.of_i (maxL := 5) (by decide) rfl (Nat.le_of_ble_eq_true rfl) ?_
  intro p e s m below meth c args hx hb hml hown hts A hA hEN hP hD hS Q hRet ls hl
  have hown : s.vm.findClass RX6 = some m.cls := hown
  have hl : lv_has ls 5 [(0, .ref (aM 0)), (1, .int x1), (2, .int x2)] := hl
  have j62 : ∀ (vT : Int64) (x1 : Int32) (x2 : Int32) (x3 : Int32) (s0 : Int32), m_X6_mark_j62 vM vT x1 x2 x3 s0 = some res → ∀ (H : Heap) (locs : List Loc) (ls : Array Slot), va_P G vwCl [oX6 aM vM vT, ai cI (aM 1) 70 (vM 1), ai cI (aM 3) 40 (vM 3)] H → va_D A [oX6 aM vM vT, ai cI (aM 1) 70 (vM 1), ai cI (aM 3) 40 (vM 3)] → va_S A s.heap H locs → lv_has ls 5 [(0, .ref (aM 0)), (1, .int x1), (2, .int x2), (3, .int x3)] → W p l e rm_X6_mark s m args below meth c H locs 0 0 Q (F0 m 62 ls [.int s0]) := by
    intro vT x1 x2 x3 s0 h H locs ls hP hD hS hl
    unfold m_X6_mark_j62 at h
    refine lv_istore (lv' := [(4, .int s0), (0, .ref (aM 0)), (1, .int x1), (2, .int x2), (3, .int x3)]) hx hb dX6_mark_62 hl (by decide) rfl (fun ls hl => ?_)
    refine lv_aload_n hx hb dX6_mark_64 rfl (lv_at hl 1 rfl) ?_
    refine lv_dup hx hb dX6_mark_65 rfl ?_
    refine va_get (D := G) (ci := 6) (v := .long vT) (C := RX6) (T := TX6) (N := 29) hx hb hts fi_X6_mark_X6 hown hEN.1 hP 0 rfl rfl 11 (by decide) (hts (.fieldLink RX6 282 "HourWellModel" "trace" "J") (List.mem_of_getElem? (i := 4) rfl)) (fun _ h9 => h9) rfl dX6_mark_66 ?_
    refine lv_lconst (v := (1 : Int64)) hx hb dX6_mark_69 (by decide) ?_
    refine lv_ladd hx hb dX6_mark_70 ?_
    refine lv_topl (fun tq70 et70 => ?_)
    rw [← et70] at h
    refine va_put (D := G) (ci := 6) (v := .long tq70) (ty := .long) (C := RX6) (T := TX6) (N := 29) hx hb hts fi_X6_mark_X6 tyX6 tyX6_ok nmX6 hown hEN.1 hP hD hS 0 rfl rfl 11 (by decide) (hts (.fieldLink RX6 282 "HourWellModel" "trace" "J") (List.mem_of_getElem? (i := 4) rfl)) (fun _ h9 => h9) rfl (by decide +kernel) rfl rfl (Nat.le_of_ble_eq_true rfl) dX6_mark_71 (fun H locs hP hD hS => ?_)
    have hP : va_P G vwCl [oX6 aM vM tq70, ai cI (aM 1) 70 (vM 1), ai cI (aM 3) 40 (vM 3)] H := hP
    have hD : va_D A [oX6 aM vM tq70, ai cI (aM 1) 70 (vM 1), ai cI (aM 3) 40 (vM 3)] := hD
    refine lv_iload_n hx hb dX6_mark_74 rfl (lv_at hl 2 rfl) ?_
    by_cases c75_0 : x1 = (1 : Int32)
    · have h := (if_pos c75_0).symm.trans h
      refine lv_tableIn (off := 33) (tgt := 108) hx hb dX6_mark_75 (by rw [c75_0]; decide) (by rw [c75_0]; decide) (by rw [c75_0]; decide) (by decide) ?_
      refine lv_aload_n hx hb dX6_mark_108 rfl (lv_at hl 1 rfl) ?_
      refine lv_dup hx hb dX6_mark_109 rfl ?_
      refine va_get (D := G) (ci := 6) (v := .long tq70) (C := RX6) (T := TX6) (N := 29) hx hb hts fi_X6_mark_X6 hown hEN.1 hP 0 rfl rfl 11 (by decide) (hts (.fieldLink RX6 282 "HourWellModel" "trace" "J") (List.mem_of_getElem? (i := 4) rfl)) (fun _ h9 => h9) rfl dX6_mark_110 ?_
      refine lv_ldc2 (v := (10 : Int64)) hx hb hown (hts (.constantLong RX6 286 (10)) (List.mem_of_getElem? (i := 5) rfl)) dX6_mark_113 ?_
      refine lv_ladd hx hb dX6_mark_116 ?_
      refine lv_topl (fun tq116 et116 => ?_)
      rw [← et116] at h
      refine va_put (D := G) (ci := 6) (v := .long tq116) (ty := .long) (C := RX6) (T := TX6) (N := 29) hx hb hts fi_X6_mark_X6 tyX6 tyX6_ok nmX6 hown hEN.1 hP hD hS 0 rfl rfl 11 (by decide) (hts (.fieldLink RX6 282 "HourWellModel" "trace" "J") (List.mem_of_getElem? (i := 4) rfl)) (fun _ h9 => h9) rfl (by decide +kernel) rfl rfl (Nat.le_of_ble_eq_true rfl) dX6_mark_117 (fun H locs hP hD hS => ?_)
      have hP : va_P G vwCl [oX6 aM vM tq116, ai cI (aM 1) 70 (vM 1), ai cI (aM 3) 40 (vM 3)] H := hP
      have hD : va_D A [oX6 aM vM tq116, ai cI (aM 1) 70 (vM 1), ai cI (aM 3) 40 (vM 3)] := hD
      refine lv_iload_n hx hb dX6_mark_120 rfl (lv_at hl 4 rfl) ?_
      refine lv_aload_n hx hb dX6_mark_121 rfl (lv_at hl 1 rfl) ?_
      refine va_get (D := G) (ci := 6) (v := .ref (aM 1)) (C := RX6) (T := TX6) (N := 29) hx hb hts fi_X6_mark_X6 hown hEN.1 hP 0 rfl rfl 0 (by decide) (hts (.fieldLink RX6 7 "HourWellModel" "tale" "[I") (List.mem_of_getElem? (i := 3) rfl)) (fun _ h9 => h9) rfl dX6_mark_122 ?_
      refine lv_bipush (v := (52 : Int32)) hx hb dX6_mark_125 k_bipush_52 ?_
      refine lv_iload_n hx hb dX6_mark_127 rfl (lv_at hl 3 rfl) ?_
      refine lv_iadd hx hb dX6_mark_128 ?_
      obtain ⟨hg129, h⟩ := grd_some h
      refine va_iald (f := (vM 1)) hx hb hEN.1 hP 1 0 rfl rfl (inb_in hg129) dX6_mark_129 ?_
      refine lv_iadd hx hb dX6_mark_130 ?_
      have hres := Option.some.inj h
      subst hres
      exact hRet 131 _ _ _ hP hD hS dX6_mark_131
    · have h := (if_neg c75_0).symm.trans h
      by_cases c75_1 : x1 = (2 : Int32)
      · have h := (if_pos c75_1).symm.trans h
        refine lv_tableIn (off := 57) (tgt := 132) hx hb dX6_mark_75 (by rw [c75_1]; decide) (by rw [c75_1]; decide) (by rw [c75_1]; decide) (by decide) ?_
        refine lv_aload_n hx hb dX6_mark_132 rfl (lv_at hl 1 rfl) ?_
        refine lv_dup hx hb dX6_mark_133 rfl ?_
        refine va_get (D := G) (ci := 6) (v := .long tq70) (C := RX6) (T := TX6) (N := 29) hx hb hts fi_X6_mark_X6 hown hEN.1 hP 0 rfl rfl 11 (by decide) (hts (.fieldLink RX6 282 "HourWellModel" "trace" "J") (List.mem_of_getElem? (i := 4) rfl)) (fun _ h9 => h9) rfl dX6_mark_134 ?_
        refine lv_ldc2 (v := (100 : Int64)) hx hb hown (hts (.constantLong RX6 288 (100)) (List.mem_of_getElem? (i := 6) rfl)) dX6_mark_137 ?_
        refine lv_ladd hx hb dX6_mark_140 ?_
        refine lv_topl (fun tq140 et140 => ?_)
        rw [← et140] at h
        refine va_put (D := G) (ci := 6) (v := .long tq140) (ty := .long) (C := RX6) (T := TX6) (N := 29) hx hb hts fi_X6_mark_X6 tyX6 tyX6_ok nmX6 hown hEN.1 hP hD hS 0 rfl rfl 11 (by decide) (hts (.fieldLink RX6 282 "HourWellModel" "trace" "J") (List.mem_of_getElem? (i := 4) rfl)) (fun _ h9 => h9) rfl (by decide +kernel) rfl rfl (Nat.le_of_ble_eq_true rfl) dX6_mark_141 (fun H locs hP hD hS => ?_)
        have hP : va_P G vwCl [oX6 aM vM tq140, ai cI (aM 1) 70 (vM 1), ai cI (aM 3) 40 (vM 3)] H := hP
        have hD : va_D A [oX6 aM vM tq140, ai cI (aM 1) 70 (vM 1), ai cI (aM 3) 40 (vM 3)] := hD
        refine lv_iload_n hx hb dX6_mark_144 rfl (lv_at hl 4 rfl) ?_
        refine lv_iload hx hb dX6_mark_145 (lv_at hl 0 rfl) ?_
        refine lv_isub hx hb dX6_mark_147 ?_
        have hres := Option.some.inj h
        subst hres
        exact hRet 148 _ _ _ hP hD hS dX6_mark_148
      · have h := (if_neg c75_1).symm.trans h
        by_cases c75_2 : x1 = (3 : Int32)
        · have h := (if_pos c75_2).symm.trans h
          refine lv_tableIn (off := 74) (tgt := 149) hx hb dX6_mark_75 (by rw [c75_2]; decide) (by rw [c75_2]; decide) (by rw [c75_2]; decide) (by decide) ?_
          refine lv_aload_n hx hb dX6_mark_149 rfl (lv_at hl 1 rfl) ?_
          refine lv_dup hx hb dX6_mark_150 rfl ?_
          refine va_get (D := G) (ci := 6) (v := .long tq70) (C := RX6) (T := TX6) (N := 29) hx hb hts fi_X6_mark_X6 hown hEN.1 hP 0 rfl rfl 11 (by decide) (hts (.fieldLink RX6 282 "HourWellModel" "trace" "J") (List.mem_of_getElem? (i := 4) rfl)) (fun _ h9 => h9) rfl dX6_mark_151 ?_
          refine lv_ldc2 (v := (1010 : Int64)) hx hb hown (hts (.constantLong RX6 290 (1010)) (List.mem_of_getElem? (i := 7) rfl)) dX6_mark_154 ?_
          refine lv_ladd hx hb dX6_mark_157 ?_
          refine lv_topl (fun tq157 et157 => ?_)
          rw [← et157] at h
          refine va_put (D := G) (ci := 6) (v := .long tq157) (ty := .long) (C := RX6) (T := TX6) (N := 29) hx hb hts fi_X6_mark_X6 tyX6 tyX6_ok nmX6 hown hEN.1 hP hD hS 0 rfl rfl 11 (by decide) (hts (.fieldLink RX6 282 "HourWellModel" "trace" "J") (List.mem_of_getElem? (i := 4) rfl)) (fun _ h9 => h9) rfl (by decide +kernel) rfl rfl (Nat.le_of_ble_eq_true rfl) dX6_mark_158 (fun H locs hP hD hS => ?_)
          have hP : va_P G vwCl [oX6 aM vM tq157, ai cI (aM 1) 70 (vM 1), ai cI (aM 3) 40 (vM 3)] H := hP
          have hD : va_D A [oX6 aM vM tq157, ai cI (aM 1) 70 (vM 1), ai cI (aM 3) 40 (vM 3)] := hD
          refine lv_iconst (v := (2 : Int32)) hx hb dX6_mark_161 k_iconst_2 ?_
          refine lv_iload_n hx hb dX6_mark_162 rfl (lv_at hl 4 rfl) ?_
          refine lv_aload_n hx hb dX6_mark_163 rfl (lv_at hl 1 rfl) ?_
          refine va_get (D := G) (ci := 6) (v := .ref (aM 1)) (C := RX6) (T := TX6) (N := 29) hx hb hts fi_X6_mark_X6 hown hEN.1 hP 0 rfl rfl 0 (by decide) (hts (.fieldLink RX6 7 "HourWellModel" "tale" "[I") (List.mem_of_getElem? (i := 3) rfl)) (fun _ h9 => h9) rfl dX6_mark_164 ?_
          refine lv_bipush (v := (52 : Int32)) hx hb dX6_mark_167 k_bipush_52 ?_
          refine lv_iload_n hx hb dX6_mark_169 rfl (lv_at hl 3 rfl) ?_
          refine lv_iadd hx hb dX6_mark_170 ?_
          obtain ⟨hg171, h⟩ := grd_some h
          refine va_iald (f := (vM 1)) hx hb hEN.1 hP 1 0 rfl rfl (inb_in hg171) dX6_mark_171 ?_
          refine lv_iadd hx hb dX6_mark_172 ?_
          refine lv_imul hx hb dX6_mark_173 ?_
          have hres := Option.some.inj h
          subst hres
          exact hRet 174 _ _ _ hP hD hS dX6_mark_174
        · have h := (if_neg c75_2).symm.trans h
          by_cases c75_3 : x1 = (4 : Int32)
          · have h := (if_pos c75_3).symm.trans h
            refine lv_tableIn (off := 100) (tgt := 175) hx hb dX6_mark_75 (by rw [c75_3]; decide) (by rw [c75_3]; decide) (by rw [c75_3]; decide) (by decide) ?_
            refine lv_aload_n hx hb dX6_mark_175 rfl (lv_at hl 1 rfl) ?_
            refine lv_dup hx hb dX6_mark_176 rfl ?_
            refine va_get (D := G) (ci := 6) (v := .long tq70) (C := RX6) (T := TX6) (N := 29) hx hb hts fi_X6_mark_X6 hown hEN.1 hP 0 rfl rfl 11 (by decide) (hts (.fieldLink RX6 282 "HourWellModel" "trace" "J") (List.mem_of_getElem? (i := 4) rfl)) (fun _ h9 => h9) rfl dX6_mark_177 ?_
            refine lv_ldc2 (v := (10100 : Int64)) hx hb hown (hts (.constantLong RX6 292 (10100)) (List.mem_of_getElem? (i := 8) rfl)) dX6_mark_180 ?_
            refine lv_ladd hx hb dX6_mark_183 ?_
            refine lv_topl (fun tq183 et183 => ?_)
            rw [← et183] at h
            refine va_put (D := G) (ci := 6) (v := .long tq183) (ty := .long) (C := RX6) (T := TX6) (N := 29) hx hb hts fi_X6_mark_X6 tyX6 tyX6_ok nmX6 hown hEN.1 hP hD hS 0 rfl rfl 11 (by decide) (hts (.fieldLink RX6 282 "HourWellModel" "trace" "J") (List.mem_of_getElem? (i := 4) rfl)) (fun _ h9 => h9) rfl (by decide +kernel) rfl rfl (Nat.le_of_ble_eq_true rfl) dX6_mark_184 (fun H locs hP hD hS => ?_)
            have hP : va_P G vwCl [oX6 aM vM tq183, ai cI (aM 1) 70 (vM 1), ai cI (aM 3) 40 (vM 3)] H := hP
            have hD : va_D A [oX6 aM vM tq183, ai cI (aM 1) 70 (vM 1), ai cI (aM 3) 40 (vM 3)] := hD
            refine lv_iload_n hx hb dX6_mark_187 rfl (lv_at hl 4 rfl) ?_
            refine lv_iload hx hb dX6_mark_188 (lv_at hl 0 rfl) ?_
            refine lv_isub hx hb dX6_mark_190 ?_
            refine lv_aload_n hx hb dX6_mark_191 rfl (lv_at hl 1 rfl) ?_
            refine va_get (D := G) (ci := 6) (v := .ref (aM 3)) (C := RX6) (T := TX6) (N := 29) hx hb hts fi_X6_mark_X6 hown hEN.1 hP 0 rfl rfl 2 (by decide) (hts (.fieldLink RX6 16 "HourWellModel" "he" "[I") (List.mem_of_getElem? (i := 9) rfl)) (fun _ h9 => h9) rfl dX6_mark_192 ?_
            refine lv_iconst (v := (2 : Int32)) hx hb dX6_mark_195 k_iconst_2 ?_
            refine va_iald (f := (vM 3)) hx hb hEN.1 hP 2 0 rfl rfl (inb_in (i := (2 : Int32)) (n := 40) rfl) dX6_mark_196 ?_
            obtain ⟨o197, ho197, h⟩ := bnd_some h
            refine call_S0 (As := [.int ((vM 3) (Int32.toNatClampNeg (2 : Int32)))]) (rest := [.int (x3 - s0)]) ⟨hx, hb, hml, hown, hts⟩ (c_X6_bits l G cI cZ  ((vM 3) (Int32.toNatClampNeg (2 : Int32))) o197 ho197) (va_cwS 1 hts gX6_mark_X6_bits rfl rfl rfl hdS_X6_bits ⟨Nat.le_of_ble_eq_true rfl, Nat.le_of_ble_eq_true rfl⟩) hEN hA hP hD hS [] rfl (by decide) rfl hl.1 rfl (Nat.le_of_ble_eq_true rfl) dX6_mark_197 ⟨Nat.le_of_ble_eq_true rfl, Nat.le_of_ble_eq_true rfl⟩ (fun H locs hP hS => ?_)
            refine lv_iadd hx hb dX6_mark_200 ?_
            have hres := Option.some.inj h
            subst hres
            exact hRet 201 _ _ _ hP hD hS dX6_mark_201
          · have h := (if_neg c75_3).symm.trans h
            by_cases c75_4 : x1 = (5 : Int32)
            · have h := (if_pos c75_4).symm.trans h
              refine lv_tableIn (off := 127) (tgt := 202) hx hb dX6_mark_75 (by rw [c75_4]; decide) (by rw [c75_4]; decide) (by rw [c75_4]; decide) (by decide) ?_
              refine lv_aload_n hx hb dX6_mark_202 rfl (lv_at hl 1 rfl) ?_
              refine lv_dup hx hb dX6_mark_203 rfl ?_
              refine va_get (D := G) (ci := 6) (v := .long tq70) (C := RX6) (T := TX6) (N := 29) hx hb hts fi_X6_mark_X6 hown hEN.1 hP 0 rfl rfl 11 (by decide) (hts (.fieldLink RX6 282 "HourWellModel" "trace" "J") (List.mem_of_getElem? (i := 4) rfl)) (fun _ h9 => h9) rfl dX6_mark_204 ?_
              refine lv_ldc2 (v := (100000 : Int64)) hx hb hown (hts (.constantLong RX6 294 (100000)) (List.mem_of_getElem? (i := 10) rfl)) dX6_mark_207 ?_
              refine lv_ladd hx hb dX6_mark_210 ?_
              refine lv_topl (fun tq210 et210 => ?_)
              rw [← et210] at h
              refine va_put (D := G) (ci := 6) (v := .long tq210) (ty := .long) (C := RX6) (T := TX6) (N := 29) hx hb hts fi_X6_mark_X6 tyX6 tyX6_ok nmX6 hown hEN.1 hP hD hS 0 rfl rfl 11 (by decide) (hts (.fieldLink RX6 282 "HourWellModel" "trace" "J") (List.mem_of_getElem? (i := 4) rfl)) (fun _ h9 => h9) rfl (by decide +kernel) rfl rfl (Nat.le_of_ble_eq_true rfl) dX6_mark_211 (fun H locs hP hD hS => ?_)
              have hP : va_P G vwCl [oX6 aM vM tq210, ai cI (aM 1) 70 (vM 1), ai cI (aM 3) 40 (vM 3)] H := hP
              have hD : va_D A [oX6 aM vM tq210, ai cI (aM 1) 70 (vM 1), ai cI (aM 3) 40 (vM 3)] := hD
              refine lv_iload_n hx hb dX6_mark_214 rfl (lv_at hl 4 rfl) ?_
              refine lv_aload_n hx hb dX6_mark_215 rfl (lv_at hl 1 rfl) ?_
              refine va_get (D := G) (ci := 6) (v := .ref (aM 3)) (C := RX6) (T := TX6) (N := 29) hx hb hts fi_X6_mark_X6 hown hEN.1 hP 0 rfl rfl 2 (by decide) (hts (.fieldLink RX6 16 "HourWellModel" "he" "[I") (List.mem_of_getElem? (i := 9) rfl)) (fun _ h9 => h9) rfl dX6_mark_216 ?_
              refine lv_iconst (v := (1 : Int32)) hx hb dX6_mark_219 k_iconst_1 ?_
              refine va_iald (f := (vM 3)) hx hb hEN.1 hP 2 0 rfl rfl (inb_in (i := (1 : Int32)) (n := 40) rfl) dX6_mark_220 ?_
              refine lv_bipush (v := (24 : Int32)) hx hb dX6_mark_221 k_bipush_24 ?_
              refine lv_rem hx hb dX6_mark_223 (by decide) ?_
              refine lv_iadd hx hb dX6_mark_224 ?_
              have hres := Option.some.inj h
              subst hres
              exact hRet 225 _ _ _ hP hD hS dX6_mark_225
            · have h := (if_neg c75_4).symm.trans h
              refine lv_tableOut (tgt := 226) hx hb dX6_mark_75 (by have e1 := lv_neT c75_0 (a := 1) (by decide); have e2 := lv_neT c75_1 (a := 2) (by decide); have e3 := lv_neT c75_2 (a := 3) (by decide); have e4 := lv_neT c75_3 (a := 4) (by decide); have e5 := lv_neT c75_4 (a := 5) (by decide);  omega) (by decide) ?_
              refine lv_iload_n hx hb dX6_mark_226 rfl (lv_at hl 4 rfl) ?_
              have hres := Option.some.inj h
              subst hres
              exact hRet 227 _ _ _ hP hD hS dX6_mark_227
  unfold m_X6_mark at h
  refine lv_iload_n hx hb dX6_mark_0 rfl (lv_at hl 1 rfl) ?_
  refine lv_i2l (v := (Int32.toInt64 x1)) hx hb dX6_mark_1 rfl ?_
  refine lv_lconst (v := (0 : Int64)) hx hb dX6_mark_2 (by decide) ?_
  refine lv_ldc2 (v := (5 : Int64)) hx hb hown (hts (.constantLong RX6 116 (5)) (List.mem_of_getElem? (i := 1) rfl)) dX6_mark_3 ?_
  obtain ⟨o6, ho6, h⟩ := bnd_some h
  refine call_S0 (As := [.long (Int32.toInt64 x1), .long (0 : Int64), .long (5 : Int64)]) (rest := []) ⟨hx, hb, hml, hown, hts⟩ (c_X6_in l G cI cZ  (Int32.toInt64 x1) (0 : Int64) (5 : Int64) o6 ho6) (va_cwS 3 hts gX6_mark_X6_in rfl rfl rfl hdS_X6_in ⟨Nat.le_of_ble_eq_true rfl, Nat.le_of_ble_eq_true rfl⟩) hEN hA hP hD hS [] rfl (by decide) rfl hl.1 rfl (Nat.le_of_ble_eq_true rfl) dX6_mark_6 ⟨Nat.le_of_ble_eq_true rfl, Nat.le_of_ble_eq_true rfl⟩ (fun H locs hP hS => ?_)
  refine lv_if_eq (tgt := 20) hx hb dX6_mark_9 (by decide) (fun c9 => ?_) (fun c9 => ?_)
  · have h := (if_pos c9).symm.trans h
    refine lv_ldcw (v := (-1000000 : Int32)) hx hb hown (hts (.constant RX6 281 (-1000000)) (List.mem_of_getElem? (i := 2) rfl)) dX6_mark_20 ?_
    have hres := Option.some.inj h
    subst hres
    exact hRet 23 _ _ _ hP hD hS dX6_mark_23
  · have h := (if_neg c9).symm.trans h
    refine lv_aload_n hx hb dX6_mark_12 rfl (lv_at hl 0 rfl) ?_
    refine lv_iload_n hx hb dX6_mark_13 rfl (lv_at hl 2 rfl) ?_
    obtain ⟨o14, ho14, h⟩ := bnd_some h
    refine call_V0 (As := [.int x2]) (rest := []) ⟨hx, hb, hml, hown, hts⟩ (c_X6_isHost l G cI cZ aM vT vM x2 o14 ho14) (cwV 1 hts gX6_mark_X6_isHost rfl rfl rfl hdV_X6_isHost ⟨Nat.le_of_ble_eq_true rfl, Nat.le_of_ble_eq_true rfl⟩) hEN hA hP hD hS [0, 1] rfl (by decide) 0 rfl rfl rfl hl.1 rfl (Nat.le_of_ble_eq_true rfl) dX6_mark_14 ⟨Nat.le_of_ble_eq_true rfl, Nat.le_of_ble_eq_true rfl⟩ (fun H locs hP hS => ?_)
    refine lv_if_ne (tgt := 24) hx hb dX6_mark_17 (by decide) (fun c17 => ?_) (fun c17 => ?_)
    · have h := (if_neg c17).symm.trans h
      refine lv_aload_n hx hb dX6_mark_24 rfl (lv_at hl 0 rfl) ?_
      refine va_get (D := G) (ci := 6) (v := .ref (aM 1)) (C := RX6) (T := TX6) (N := 29) hx hb hts fi_X6_mark_X6 hown hEN.1 hP 0 rfl rfl 0 (by decide) (hts (.fieldLink RX6 7 "HourWellModel" "tale" "[I") (List.mem_of_getElem? (i := 3) rfl)) (fun _ h9 => h9) rfl dX6_mark_25 ?_
      refine lv_bipush (v := (58 : Int32)) hx hb dX6_mark_28 k_bipush_58 ?_
      refine lv_iload_n hx hb dX6_mark_30 rfl (lv_at hl 2 rfl) ?_
      refine lv_iadd hx hb dX6_mark_31 ?_
      obtain ⟨hg32, h⟩ := grd_some h
      refine va_iald (f := (vM 1)) hx hb hEN.1 hP 1 0 rfl rfl (inb_in hg32) dX6_mark_32 ?_
      refine lv_istore_n (lv' := [(3, .int ((vM 1) (Int32.toNatClampNeg ((58 : Int32) + x2)))), (0, .ref (aM 0)), (1, .int x1), (2, .int x2)]) hx hb dX6_mark_33 rfl hl (by decide) rfl (fun ls hl => ?_)
      refine lv_aload_n hx hb dX6_mark_34 rfl (lv_at hl 1 rfl) ?_
      refine va_get (D := G) (ci := 6) (v := .ref (aM 1)) (C := RX6) (T := TX6) (N := 29) hx hb hts fi_X6_mark_X6 hown hEN.1 hP 0 rfl rfl 0 (by decide) (hts (.fieldLink RX6 7 "HourWellModel" "tale" "[I") (List.mem_of_getElem? (i := 3) rfl)) (fun _ h9 => h9) rfl dX6_mark_35 ?_
      refine lv_bipush (v := (64 : Int32)) hx hb dX6_mark_38 k_bipush_64 ?_
      refine lv_iload_n hx hb dX6_mark_40 rfl (lv_at hl 3 rfl) ?_
      refine lv_iadd hx hb dX6_mark_41 ?_
      obtain ⟨hg42, h⟩ := grd_some h
      refine va_iald (f := (vM 1)) hx hb hEN.1 hP 1 0 rfl rfl (inb_in hg42) dX6_mark_42 ?_
      refine lv_bipush (v := (9 : Int32)) hx hb dX6_mark_43 k_bipush_9 ?_
      refine lv_icmp_ne (tgt := 53) hx hb dX6_mark_45 (by decide) (fun c45 => ?_) (fun c45 => ?_)
      · have h := (if_neg c45).symm.trans h
        refine lv_aload_n hx hb dX6_mark_53 rfl (lv_at hl 1 rfl) ?_
        refine va_get (D := G) (ci := 6) (v := .ref (aM 1)) (C := RX6) (T := TX6) (N := 29) hx hb hts fi_X6_mark_X6 hown hEN.1 hP 0 rfl rfl 0 (by decide) (hts (.fieldLink RX6 7 "HourWellModel" "tale" "[I") (List.mem_of_getElem? (i := 3) rfl)) (fun _ h9 => h9) rfl dX6_mark_54 ?_
        refine lv_bipush (v := (64 : Int32)) hx hb dX6_mark_57 k_bipush_64 ?_
        refine lv_iload_n hx hb dX6_mark_59 rfl (lv_at hl 3 rfl) ?_
        refine lv_iadd hx hb dX6_mark_60 ?_
        obtain ⟨hg61, h⟩ := grd_some h
        refine va_iald (f := (vM 1)) hx hb hEN.1 hP 1 0 rfl rfl (inb_in hg61) dX6_mark_61 ?_
        exact j62 vT x1 x2 ((vM 1) (Int32.toNatClampNeg ((58 : Int32) + x2))) ((vM 1) (Int32.toNatClampNeg ((64 : Int32) + x2))) h _ _ _ hP hD hS (lv_sub hl [1, 2, 3, 0] rfl)
      · have h := (if_pos c45).symm.trans h
        refine lv_bipush (v := (9 : Int32)) hx hb dX6_mark_48 k_bipush_9 ?_
        refine lv_goto (tgt := 62) hx hb dX6_mark_50 (by decide) ?_
        exact j62 vT x1 x2 ((vM 1) (Int32.toNatClampNeg ((58 : Int32) + x2))) (9 : Int32) h _ _ _ hP hD hS (lv_sub hl [1, 2, 3, 0] rfl)
    · have h := (if_pos c17).symm.trans h
      refine lv_ldcw (v := (-1000000 : Int32)) hx hb hown (hts (.constant RX6 281 (-1000000)) (List.mem_of_getElem? (i := 2) rfl)) dX6_mark_20 ?_
      have hres := Option.some.inj h
      subst hres
      exact hRet 23 _ _ _ hP hD hS dX6_mark_23
