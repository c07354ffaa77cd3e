abbrev rm_X6_tale : Room := { frames := 7, cells := 0, slots := 0, locals := 155 }
theorem fi_X6_tale_X6 : ∀ w ∈ wsX60, w ∈ wsX6_tale := fun _ h => List.mem_cons_of_mem _ (List.mem_append_right _ h)
theorem hdV_X6_tale : yX6_tale.cls = RX6 ∧ yX6_tale.cls ≠ "java/lang/invoke/MethodHandle" ∧ yX6_tale.cls ≠ "java/lang/invoke/VarHandle" ∧ (parseMethodDescriptor yX6_tale.desc).map (fun d => d.parameters.length) = some 0 := by decide +kernel
set_option maxRecDepth 100000 in
set_option maxHeartbeats 4000000 in
theorem c_X6_tale (l : Launch) (G : va_G) (cI cZ : ClassId) (aM : Nat → Nat) (vT : Int64) (vM : Ob)  (res : Int32 × Ob) (h : m_X6_tale vM  = some res) : Ct l yX6_tale wsX6_tale rm_X6_tale G cI cZ [.ref (aM 0)] [oX6 aM vM vT, ai cI (aM 1) 70 (vM 1), ai cI (aM 2) 70 (vM 2), ai cI (aM 3) 40 (vM 3), ai cI (aM 4) 80 (vM 4), ai cZ (aM 5) 2 (vM 5), ai cI (aM 6) 200 (vM 6), ai cI (aM 8) 12 (vM 8), ai cI (aM 10) 12 (vM 10), ai cI (aM 18) 427 (vM 18), ai cI (aM 21) 100 (vM 21), ai cI (aM 23) 100 (vM 23), ai cI (aM 24) 100 (vM 24), ai cI (aM 26) 7 (vM 26), ai cI (aM 27) 5 (vM 27), ai cI (aM 28) 64 (vM 28)] (some (.int res.1)) [oX6 aM res.2 vT, ai cI (aM 1) 70 (res.2 1), ai cI (aM 2) 70 (res.2 2), ai cI (aM 3) 40 (res.2 3), ai cI (aM 4) 80 (res.2 4), ai cZ (aM 5) 2 (res.2 5), ai cI (aM 6) 200 (res.2 6), ai cI (aM 8) 12 (res.2 8), ai cI (aM 10) 12 (res.2 10), ai cI (aM 18) 427 (res.2 18), ai cI (aM 21) 100 (res.2 21), ai cI (aM 23) 100 (res.2 23), ai cI (aM 24) 100 (res.2 24), ai cI (aM 26) 7 (res.2 26), ai cI (aM 27) 5 (res.2 27), ai cI (aM 28) 64 (res.2 28)] := by
  refine Ct.of_i (maxL := 3) (by decide) rfl (Nat.le_of_ble_eq_true rfl) ?_
  intro p e s m below meth c args hx hb hml hown hts A hA hEN hP hD hS Q hRet ls hl
  have hown : s.vm.findClass RX6 = some m.cls := hown
  have hl : lv_has ls 3 [(0, .ref (aM 0))] := hl
  have L23 : ∀ (out : (Int32 × Ob) ⊕ (Ob × Int32)), (∀ r : Int32 × Ob, out = Sum.inl r → r = res) → (∀ ex : Ob × Int32, out = Sum.inr ex → ∀ (H : Heap) (locs : List Loc) (ls : Array Slot), va_P G vwCl [oX6 aM ex.1 vT, ai cI (aM 1) 70 (ex.1 1), ai cI (aM 2) 70 (ex.1 2), ai cI (aM 3) 40 (ex.1 3), ai cI (aM 4) 80 (ex.1 4), ai cZ (aM 5) 2 (ex.1 5), ai cI (aM 6) 200 (ex.1 6), ai cI (aM 8) 12 (ex.1 8), ai cI (aM 10) 12 (ex.1 10), ai cI (aM 18) 427 (ex.1 18), ai cI (aM 21) 100 (ex.1 21), ai cI (aM 23) 100 (ex.1 23), ai cI (aM 24) 100 (ex.1 24), ai cI (aM 26) 7 (ex.1 26), ai cI (aM 27) 5 (ex.1 27), ai cI (aM 28) 64 (ex.1 28)] H → va_D A [oX6 aM ex.1 vT, ai cI (aM 1) 70 (ex.1 1), ai cI (aM 2) 70 (ex.1 2), ai cI (aM 3) 40 (ex.1 3), ai cI (aM 4) 80 (ex.1 4), ai cZ (aM 5) 2 (ex.1 5), ai cI (aM 6) 200 (ex.1 6), ai cI (aM 8) 12 (ex.1 8), ai cI (aM 10) 12 (ex.1 10), ai cI (aM 18) 427 (ex.1 18), ai cI (aM 21) 100 (ex.1 21), ai cI (aM 23) 100 (ex.1 23), ai cI (aM 24) 100 (ex.1 24), ai cI (aM 26) 7 (ex.1 26), ai cI (aM 27) 5 (ex.1 27), ai cI (aM 28) 64 (ex.1 28)] → va_S A s.heap H locs → lv_has ls 3 [(0, .ref (aM 0)), (1, .int ex.2)] → W p l e rm_X6_tale s m args below meth c H locs 0 0 Q (F0 m 55 ls [])) → ∀ (n : Nat) (vM : Ob) (x1 : Int32), m_X6_tale_L23  n vM x1 = some out → ∀ (H : Heap) (locs : List Loc) (ls : Array Slot), va_P G vwCl [oX6 aM vM vT, ai cI (aM 1) 70 (vM 1), ai cI (aM 2) 70 (vM 2), ai cI (aM 3) 40 (vM 3), ai cI (aM 4) 80 (vM 4), ai cZ (aM 5) 2 (vM 5), ai cI (aM 6) 200 (vM 6), ai cI (aM 8) 12 (vM 8), ai cI (aM 10) 12 (vM 10), ai cI (aM 18) 427 (vM 18), ai cI (aM 21) 100 (vM 21), ai cI (aM 23) 100 (vM 23), ai cI (aM 24) 100 (vM 24), ai cI (aM 26) 7 (vM 26), ai cI (aM 27) 5 (vM 27), ai cI (aM 28) 64 (vM 28)] H → va_D A [oX6 aM vM vT, ai cI (aM 1) 70 (vM 1), ai cI (aM 2) 70 (vM 2), ai cI (aM 3) 40 (vM 3), ai cI (aM 4) 80 (vM 4), ai cZ (aM 5) 2 (vM 5), ai cI (aM 6) 200 (vM 6), ai cI (aM 8) 12 (vM 8), ai cI (aM 10) 12 (vM 10), ai cI (aM 18) 427 (vM 18), ai cI (aM 21) 100 (vM 21), ai cI (aM 23) 100 (vM 23), ai cI (aM 24) 100 (vM 24), ai cI (aM 26) 7 (vM 26), ai cI (aM 27) 5 (vM 27), ai cI (aM 28) 64 (vM 28)] → va_S A s.heap H locs → lv_has ls 3 [(0, .ref (aM 0)), (1, .int x1)] → W p l e rm_X6_tale s m args below meth c H locs 0 0 Q (F0 m 23 ls []) := by
    intro out hKr hKx
    intro n
    induction n with
    | zero => intro vM x1 h; exact nomatch (show (none : Option ((Int32 × Ob) ⊕ (Ob × Int32))) = some out from h)
    | succ n hrc =>
      intro vM x1 h H locs ls hP hD hS hl
      have h : m_X6_tale_L23B  (m_X6_tale_L23  n) vM x1 = some out := h
      generalize m_X6_tale_L23  n = rc at h hrc
      unfold m_X6_tale_L23B at h
      refine lv_aload_n hx hb dX6_tale_23 rfl (lv_at hl 0 rfl) ?_
      refine va_get (D := G) (ci := 6) (v := .int (vM 0 14)) (C := RX6) (T := TX6) (N := 29) hx hb hts fi_X6_tale_X6 hown hEN.1 hP 0 rfl rfl 14 (by decide) (hts (.fieldLink RX6 95 "HourWellModel" "token" "I") (List.mem_of_getElem? (i := 4) rfl)) (fun _ h9 => h9) rfl dX6_tale_24 ?_
      refine lv_if_eq (tgt := 55) hx hb dX6_tale_27 (by decide) (fun c27 => ?_) (fun c27 => ?_)
      · have h := (if_pos c27).symm.trans h
        exact hKx _ (Option.some.inj h).symm _ _ _ hP hD hS (lv_sub hl [0, 1] rfl)
      · have h := (if_neg c27).symm.trans h
        refine lv_aload_n hx hb dX6_tale_30 rfl (lv_at hl 0 rfl) ?_
        obtain ⟨o31, ho31, h⟩ := bnd_some h
        refine call_VJ (wr := []) (As := []) (rest := []) ⟨hx, hb, hml, hown, hts⟩ (c_X6_takesItem l G cI cZ aM vT vM o31 ho31) (cwV 0 hts gX6_tale_X6_takesItem rfl rfl rfl hdV_X6_takesItem ⟨Nat.le_of_ble_eq_true rfl, Nat.le_of_ble_eq_true rfl⟩) hEN hA hP hD hS [0, 1, 2, 3, 4, 5, 6, 7, 8, 9, 10, 11, 12, 13, 14, 15] [] rfl (by decide) rfl (by decide) (by decide) 0 rfl rfl rfl hl.1 rfl (Nat.le_of_ble_eq_true rfl) dX6_tale_31 ⟨Nat.le_of_ble_eq_true rfl, Nat.le_of_ble_eq_true rfl⟩ (fun H locs hP hD hS => ?_)
        have hP : va_P G vwCl [oX6 aM o31.2 vT, ai cI (aM 1) 70 (o31.2 1), ai cI (aM 2) 70 (o31.2 2), ai cI (aM 3) 40 (o31.2 3), ai cI (aM 4) 80 (o31.2 4), ai cZ (aM 5) 2 (o31.2 5), ai cI (aM 6) 200 (o31.2 6), ai cI (aM 8) 12 (o31.2 8), ai cI (aM 10) 12 (o31.2 10), ai cI (aM 18) 427 (o31.2 18), ai cI (aM 21) 100 (o31.2 21), ai cI (aM 23) 100 (o31.2 23), ai cI (aM 24) 100 (o31.2 24), ai cI (aM 26) 7 (o31.2 26), ai cI (aM 27) 5 (o31.2 27), ai cI (aM 28) 64 (o31.2 28)] H := hP
        have hD : va_D A [oX6 aM o31.2 vT, ai cI (aM 1) 70 (o31.2 1), ai cI (aM 2) 70 (o31.2 2), ai cI (aM 3) 40 (o31.2 3), ai cI (aM 4) 80 (o31.2 4), ai cZ (aM 5) 2 (o31.2 5), ai cI (aM 6) 200 (o31.2 6), ai cI (aM 8) 12 (o31.2 8), ai cI (aM 10) 12 (o31.2 10), ai cI (aM 18) 427 (o31.2 18), ai cI (aM 21) 100 (o31.2 21), ai cI (aM 23) 100 (o31.2 23), ai cI (aM 24) 100 (o31.2 24), ai cI (aM 26) 7 (o31.2 26), ai cI (aM 27) 5 (o31.2 27), ai cI (aM 28) 64 (o31.2 28)] := hD
        refine lv_if_ne (tgt := 45) hx hb dX6_tale_34 (by decide) (fun c34 => ?_) (fun c34 => ?_)
        · have h := (if_neg c34).symm.trans h
          refine lv_iinc (v := (x1 + (1 : Int32))) (lv' := [(1, .int (x1 + (1 : Int32))), (0, .ref (aM 0))]) hx hb dX6_tale_45 hl (k := 1) rfl (congrArg (fun z => x1 + z) k_iconst_1) (by decide) rfl (fun ls hl => ?_)
          refine lv_aload_n hx hb dX6_tale_48 rfl (lv_at hl 1 rfl) ?_
          obtain ⟨o49, ho49, h⟩ := bnd_some h
          refine call_VJ (wr := []) (As := []) (rest := []) ⟨hx, hb, hml, hown, hts⟩ (c_X6_next l G cI cZ aM vT o31.2 o49 ho49) (cwV 0 hts gX6_tale_X6_next rfl rfl rfl hdV_X6_next ⟨Nat.le_of_ble_eq_true rfl, Nat.le_of_ble_eq_true rfl⟩) hEN hA hP hD hS [0, 1, 2, 3, 4, 5, 6, 7, 8, 9, 10, 11, 12, 13, 14, 15] [] rfl (by decide) rfl (by decide) (by decide) 0 rfl rfl rfl hl.1 rfl (Nat.le_of_ble_eq_true rfl) dX6_tale_49 ⟨Nat.le_of_ble_eq_true rfl, Nat.le_of_ble_eq_true rfl⟩ (fun H locs hP hD hS => ?_)
          have hP : va_P G vwCl [oX6 aM o49 vT, ai cI (aM 1) 70 (o49 1), ai cI (aM 2) 70 (o49 2), ai cI (aM 3) 40 (o49 3), ai cI (aM 4) 80 (o49 4), ai cZ (aM 5) 2 (o49 5), ai cI (aM 6) 200 (o49 6), ai cI (aM 8) 12 (o49 8), ai cI (aM 10) 12 (o49 10), ai cI (aM 18) 427 (o49 18), ai cI (aM 21) 100 (o49 21), ai cI (aM 23) 100 (o49 23), ai cI (aM 24) 100 (o49 24), ai cI (aM 26) 7 (o49 26), ai cI (aM 27) 5 (o49 27), ai cI (aM 28) 64 (o49 28)] H := hP
          have hD : va_D A [oX6 aM o49 vT, ai cI (aM 1) 70 (o49 1), ai cI (aM 2) 70 (o49 2), ai cI (aM 3) 40 (o49 3), ai cI (aM 4) 80 (o49 4), ai cZ (aM 5) 2 (o49 5), ai cI (aM 6) 200 (o49 6), ai cI (aM 8) 12 (o49 8), ai cI (aM 10) 12 (o49 10), ai cI (aM 18) 427 (o49 18), ai cI (aM 21) 100 (o49 21), ai cI (aM 23) 100 (o49 23), ai cI (aM 24) 100 (o49 24), ai cI (aM 26) 7 (o49 26), ai cI (aM 27) 5 (o49 27), ai cI (aM 28) 64 (o49 28)] := hD
          refine lv_goto (tgt := 23) hx hb dX6_tale_52 (by decide) ?_
          exact hrc o49 (x1 + (1 : Int32)) h _ _ _ hP hD hS (lv_sub hl [1, 0] rfl)
        · have h := (if_pos c34).symm.trans h
          refine lv_bipush (v := (-10 : Int32)) hx hb dX6_tale_37 k_bipush_n10 ?_
          refine lv_aload_n hx hb dX6_tale_39 rfl (lv_at hl 0 rfl) ?_
          refine va_get (D := G) (ci := 6) (v := .int (o31.2 0 13)) (C := RX6) (T := TX6) (N := 29) hx hb hts fi_X6_tale_X6 hown hEN.1 hP 0 rfl rfl 13 (by decide) (hts (.fieldLink RX6 85 "HourWellModel" "begin" "I") (List.mem_of_getElem? (i := 5) rfl)) (fun _ h9 => h9) rfl dX6_tale_40 ?_
          refine lv_isub hx hb dX6_tale_43 ?_
          have hres := hKr _ (Option.some.inj h).symm
          subst hres
          exact hRet 44 _ _ _ hP hD hS dX6_tale_44
  have L57 : ∀ (out : Ob × Int32), (∀ ex : Ob × Int32, out = ex → ∀ (H : Heap) (locs : List Loc) (ls : Array Slot), va_P G vwCl [oX6 aM ex.1 vT, ai cI (aM 1) 70 (ex.1 1), ai cI (aM 2) 70 (ex.1 2), ai cI (aM 3) 40 (ex.1 3), ai cI (aM 4) 80 (ex.1 4), ai cZ (aM 5) 2 (ex.1 5), ai cI (aM 6) 200 (ex.1 6), ai cI (aM 8) 12 (ex.1 8), ai cI (aM 10) 12 (ex.1 10), ai cI (aM 18) 427 (ex.1 18), ai cI (aM 21) 100 (ex.1 21), ai cI (aM 23) 100 (ex.1 23), ai cI (aM 24) 100 (ex.1 24), ai cI (aM 26) 7 (ex.1 26), ai cI (aM 27) 5 (ex.1 27), ai cI (aM 28) 64 (ex.1 28)] H → va_D A [oX6 aM ex.1 vT, ai cI (aM 1) 70 (ex.1 1), ai cI (aM 2) 70 (ex.1 2), ai cI (aM 3) 40 (ex.1 3), ai cI (aM 4) 80 (ex.1 4), ai cZ (aM 5) 2 (ex.1 5), ai cI (aM 6) 200 (ex.1 6), ai cI (aM 8) 12 (ex.1 8), ai cI (aM 10) 12 (ex.1 10), ai cI (aM 18) 427 (ex.1 18), ai cI (aM 21) 100 (ex.1 21), ai cI (aM 23) 100 (ex.1 23), ai cI (aM 24) 100 (ex.1 24), ai cI (aM 26) 7 (ex.1 26), ai cI (aM 27) 5 (ex.1 27), ai cI (aM 28) 64 (ex.1 28)] → va_S A s.heap H locs → lv_has ls 3 [(0, .ref (aM 0)), (1, .int ex.2)] → W p l e rm_X6_tale s m args below meth c H locs 0 0 Q (F0 m 81 ls [])) → ∀ (n : Nat) (vM : Ob) (x1 : Int32) (x2 : Int32), m_X6_tale_L57  n vM x1 x2 = some out → ∀ (H : Heap) (locs : List Loc) (ls : Array Slot), va_P G vwCl [oX6 aM vM vT, ai cI (aM 1) 70 (vM 1), ai cI (aM 2) 70 (vM 2), ai cI (aM 3) 40 (vM 3), ai cI (aM 4) 80 (vM 4), ai cZ (aM 5) 2 (vM 5), ai cI (aM 6) 200 (vM 6), ai cI (aM 8) 12 (vM 8), ai cI (aM 10) 12 (vM 10), ai cI (aM 18) 427 (vM 18), ai cI (aM 21) 100 (vM 21), ai cI (aM 23) 100 (vM 23), ai cI (aM 24) 100 (vM 24), ai cI (aM 26) 7 (vM 26), ai cI (aM 27) 5 (vM 27), ai cI (aM 28) 64 (vM 28)] H → va_D A [oX6 aM vM vT, ai cI (aM 1) 70 (vM 1), ai cI (aM 2) 70 (vM 2), ai cI (aM 3) 40 (vM 3), ai cI (aM 4) 80 (vM 4), ai cZ (aM 5) 2 (vM 5), ai cI (aM 6) 200 (vM 6), ai cI (aM 8) 12 (vM 8), ai cI (aM 10) 12 (vM 10), ai cI (aM 18) 427 (vM 18), ai cI (aM 21) 100 (vM 21), ai cI (aM 23) 100 (vM 23), ai cI (aM 24) 100 (vM 24), ai cI (aM 26) 7 (vM 26), ai cI (aM 27) 5 (vM 27), ai cI (aM 28) 64 (vM 28)] → va_S A s.heap H locs → lv_has ls 3 [(0, .ref (aM 0)), (1, .int x1), (2, .int x2)] → W p l e rm_X6_tale s m args below meth c H locs 0 0 Q (F0 m 57 ls []) := by
    intro out hKx
    intro n
    induction n with
    | zero => intro vM x1 x2 h; exact nomatch (show (none : Option (Ob × Int32)) = some out from h)
    | succ n hrc =>
      intro vM x1 x2 h H locs ls hP hD hS hl
      have h : m_X6_tale_L57B  (m_X6_tale_L57  n) vM x1 x2 = some out := h
      generalize m_X6_tale_L57  n = rc at h hrc
      unfold m_X6_tale_L57B at h
      refine lv_iload_n hx hb dX6_tale_57 rfl (lv_at hl 2 rfl) ?_
      refine lv_bipush (v := (70 : Int32)) hx hb dX6_tale_58 k_bipush_70 ?_
      refine lv_icmp_ge (tgt := 81) hx hb dX6_tale_60 (by decide) (fun c60 => ?_) (fun c60 => ?_)
      · have h := (if_pos c60).symm.trans h
        exact hKx _ (Option.some.inj h).symm _ _ _ hP hD hS (lv_sub hl [0, 1] rfl)
      · have h := (if_neg c60).symm.trans h
        refine lv_aload_n hx hb dX6_tale_63 rfl (lv_at hl 0 rfl) ?_
        refine va_get (D := G) (ci := 6) (v := .ref (aM 1)) (C := RX6) (T := TX6) (N := 29) hx hb hts fi_X6_tale_X6 hown hEN.1 hP 0 rfl rfl 0 (by decide) (hts (.fieldLink RX6 7 "HourWellModel" "tale" "[I") (List.mem_of_getElem? (i := 6) rfl)) (fun _ h9 => h9) rfl dX6_tale_64 ?_
        refine lv_iload_n hx hb dX6_tale_67 rfl (lv_at hl 2 rfl) ?_
        refine lv_aload_n hx hb dX6_tale_68 rfl (lv_at hl 0 rfl) ?_
        refine va_get (D := G) (ci := 6) (v := .ref (aM 2)) (C := RX6) (T := TX6) (N := 29) hx hb hts fi_X6_tale_X6 hown hEN.1 hP 0 rfl rfl 1 (by decide) (hts (.fieldLink RX6 13 "HourWellModel" "read" "[I") (List.mem_of_getElem? (i := 1) rfl)) (fun _ h9 => h9) rfl dX6_tale_69 ?_
        refine lv_iload_n hx hb dX6_tale_72 rfl (lv_at hl 2 rfl) ?_
        obtain ⟨hg73, h⟩ := grd_some h
        refine va_iald (f := (vM 2)) hx hb hEN.1 hP 2 0 rfl rfl (inb_in hg73) dX6_tale_73 ?_
        obtain ⟨hg74, h⟩ := grd_some h
        refine va_iast (f := (vM 1)) hx hb hEN.1 hP hD hS 1 0 rfl rfl (inb_in hg74) dX6_tale_74 (fun H locs hP hD hS => ?_)
        have hP : va_P G vwCl [oX6 aM vM vT, ai cI (aM 1) 70 (upd (vM 1) (Int32.toNatClampNeg x2) ((vM 2) (Int32.toNatClampNeg x2))), ai cI (aM 2) 70 (vM 2), ai cI (aM 3) 40 (vM 3), ai cI (aM 4) 80 (vM 4), ai cZ (aM 5) 2 (vM 5), ai cI (aM 6) 200 (vM 6), ai cI (aM 8) 12 (vM 8), ai cI (aM 10) 12 (vM 10), ai cI (aM 18) 427 (vM 18), ai cI (aM 21) 100 (vM 21), ai cI (aM 23) 100 (vM 23), ai cI (aM 24) 100 (vM 24), ai cI (aM 26) 7 (vM 26), ai cI (aM 27) 5 (vM 27), ai cI (aM 28) 64 (vM 28)] H := hP
        have hD : va_D A [oX6 aM vM vT, ai cI (aM 1) 70 (upd (vM 1) (Int32.toNatClampNeg x2) ((vM 2) (Int32.toNatClampNeg x2))), ai cI (aM 2) 70 (vM 2), ai cI (aM 3) 40 (vM 3), ai cI (aM 4) 80 (vM 4), ai cZ (aM 5) 2 (vM 5), ai cI (aM 6) 200 (vM 6), ai cI (aM 8) 12 (vM 8), ai cI (aM 10) 12 (vM 10), ai cI (aM 18) 427 (vM 18), ai cI (aM 21) 100 (vM 21), ai cI (aM 23) 100 (vM 23), ai cI (aM 24) 100 (vM 24), ai cI (aM 26) 7 (vM 26), ai cI (aM 27) 5 (vM 27), ai cI (aM 28) 64 (vM 28)] := hD
        refine lv_iinc (v := (x2 + (1 : Int32))) (lv' := [(2, .int (x2 + (1 : Int32))), (0, .ref (aM 0)), (1, .int x1)]) hx hb dX6_tale_75 hl (k := 2) rfl (congrArg (fun z => x2 + z) k_iconst_1) (by decide) rfl (fun ls hl => ?_)
        refine lv_goto (tgt := 57) hx hb dX6_tale_78 (by decide) ?_
        exact hrc (st vM 1 (Int32.toNatClampNeg x2) ((vM 2) (Int32.toNatClampNeg x2))) x1 (x2 + (1 : Int32)) h _ _ _ hP hD hS (lv_sub hl [1, 2, 0] rfl)
  have L83 : ∀ (out : Ob × Int32), (∀ ex : Ob × Int32, out = ex → ∀ (H : Heap) (locs : List Loc) (ls : Array Slot), va_P G vwCl [oX6 aM ex.1 vT, ai cI (aM 1) 70 (ex.1 1), ai cI (aM 2) 70 (ex.1 2), ai cI (aM 3) 40 (ex.1 3), ai cI (aM 4) 80 (ex.1 4), ai cZ (aM 5) 2 (ex.1 5), ai cI (aM 6) 200 (ex.1 6), ai cI (aM 8) 12 (ex.1 8), ai cI (aM 10) 12 (ex.1 10), ai cI (aM 18) 427 (ex.1 18), ai cI (aM 21) 100 (ex.1 21), ai cI (aM 23) 100 (ex.1 23), ai cI (aM 24) 100 (ex.1 24), ai cI (aM 26) 7 (ex.1 26), ai cI (aM 27) 5 (ex.1 27), ai cI (aM 28) 64 (ex.1 28)] H → va_D A [oX6 aM ex.1 vT, ai cI (aM 1) 70 (ex.1 1), ai cI (aM 2) 70 (ex.1 2), ai cI (aM 3) 40 (ex.1 3), ai cI (aM 4) 80 (ex.1 4), ai cZ (aM 5) 2 (ex.1 5), ai cI (aM 6) 200 (ex.1 6), ai cI (aM 8) 12 (ex.1 8), ai cI (aM 10) 12 (ex.1 10), ai cI (aM 18) 427 (ex.1 18), ai cI (aM 21) 100 (ex.1 21), ai cI (aM 23) 100 (ex.1 23), ai cI (aM 24) 100 (ex.1 24), ai cI (aM 26) 7 (ex.1 26), ai cI (aM 27) 5 (ex.1 27), ai cI (aM 28) 64 (ex.1 28)] → va_S A s.heap H locs → lv_has ls 3 [(0, .ref (aM 0)), (1, .int ex.2)] → W p l e rm_X6_tale s m args below meth c H locs 0 0 Q (F0 m 102 ls [])) → ∀ (n : Nat) (vM : Ob) (x1 : Int32) (x2 : Int32), m_X6_tale_L83  n vM x1 x2 = some out → ∀ (H : Heap) (locs : List Loc) (ls : Array Slot), va_P G vwCl [oX6 aM vM vT, ai cI (aM 1) 70 (vM 1), ai cI (aM 2) 70 (vM 2), ai cI (aM 3) 40 (vM 3), ai cI (aM 4) 80 (vM 4), ai cZ (aM 5) 2 (vM 5), ai cI (aM 6) 200 (vM 6), ai cI (aM 8) 12 (vM 8), ai cI (aM 10) 12 (vM 10), ai cI (aM 18) 427 (vM 18), ai cI (aM 21) 100 (vM 21), ai cI (aM 23) 100 (vM 23), ai cI (aM 24) 100 (vM 24), ai cI (aM 26) 7 (vM 26), ai cI (aM 27) 5 (vM 27), ai cI (aM 28) 64 (vM 28)] H → va_D A [oX6 aM vM vT, ai cI (aM 1) 70 (vM 1), ai cI (aM 2) 70 (vM 2), ai cI (aM 3) 40 (vM 3), ai cI (aM 4) 80 (vM 4), ai cZ (aM 5) 2 (vM 5), ai cI (aM 6) 200 (vM 6), ai cI (aM 8) 12 (vM 8), ai cI (aM 10) 12 (vM 10), ai cI (aM 18) 427 (vM 18), ai cI (aM 21) 100 (vM 21), ai cI (aM 23) 100 (vM 23), ai cI (aM 24) 100 (vM 24), ai cI (aM 26) 7 (vM 26), ai cI (aM 27) 5 (vM 27), ai cI (aM 28) 64 (vM 28)] → va_S A s.heap H locs → lv_has ls 3 [(0, .ref (aM 0)), (1, .int x1), (2, .int x2)] → W p l e rm_X6_tale s m args below meth c H locs 0 0 Q (F0 m 83 ls []) := by
    intro out hKx
    intro n
    induction n with
    | zero => intro vM x1 x2 h; exact nomatch (show (none : Option (Ob × Int32)) = some out from h)
    | succ n hrc =>
      intro vM x1 x2 h H locs ls hP hD hS hl
      have h : m_X6_tale_L83B  (m_X6_tale_L83  n) vM x1 x2 = some out := h
      generalize m_X6_tale_L83  n = rc at h hrc
      unfold m_X6_tale_L83B at h
      refine lv_iload_n hx hb dX6_tale_83 rfl (lv_at hl 2 rfl) ?_
      refine lv_bipush (v := (40 : Int32)) hx hb dX6_tale_84 k_bipush_40 ?_
      refine lv_icmp_ge (tgt := 102) hx hb dX6_tale_86 (by decide) (fun c86 => ?_) (fun c86 => ?_)
      · have h := (if_pos c86).symm.trans h
        exact hKx _ (Option.some.inj h).symm _ _ _ hP hD hS (lv_sub hl [0, 1] rfl)
      · have h := (if_neg c86).symm.trans h
        refine lv_aload_n hx hb dX6_tale_89 rfl (lv_at hl 0 rfl) ?_
        refine va_get (D := G) (ci := 6) (v := .ref (aM 3)) (C := RX6) (T := TX6) (N := 29) hx hb hts fi_X6_tale_X6 hown hEN.1 hP 0 rfl rfl 2 (by decide) (hts (.fieldLink RX6 16 "HourWellModel" "he" "[I") (List.mem_of_getElem? (i := 7) rfl)) (fun _ h9 => h9) rfl dX6_tale_90 ?_
        refine lv_iload_n hx hb dX6_tale_93 rfl (lv_at hl 2 rfl) ?_
        refine lv_iconst (v := (0 : Int32)) hx hb dX6_tale_94 k_iconst_0 ?_
        obtain ⟨hg95, h⟩ := grd_some h
        refine va_iast (f := (vM 3)) hx hb hEN.1 hP hD hS 3 0 rfl rfl (inb_in hg95) dX6_tale_95 (fun H locs hP hD hS => ?_)
        have hP : va_P G vwCl [oX6 aM vM vT, ai cI (aM 1) 70 (vM 1), ai cI (aM 2) 70 (vM 2), ai cI (aM 3) 40 (upd (vM 3) (Int32.toNatClampNeg x2) (0 : Int32)), ai cI (aM 4) 80 (vM 4), ai cZ (aM 5) 2 (vM 5), ai cI (aM 6) 200 (vM 6), ai cI (aM 8) 12 (vM 8), ai cI (aM 10) 12 (vM 10), ai cI (aM 18) 427 (vM 18), ai cI (aM 21) 100 (vM 21), ai cI (aM 23) 100 (vM 23), ai cI (aM 24) 100 (vM 24), ai cI (aM 26) 7 (vM 26), ai cI (aM 27) 5 (vM 27), ai cI (aM 28) 64 (vM 28)] H := hP
        have hD : va_D A [oX6 aM vM vT, ai cI (aM 1) 70 (vM 1), ai cI (aM 2) 70 (vM 2), ai cI (aM 3) 40 (upd (vM 3) (Int32.toNatClampNeg x2) (0 : Int32)), ai cI (aM 4) 80 (vM 4), ai cZ (aM 5) 2 (vM 5), ai cI (aM 6) 200 (vM 6), ai cI (aM 8) 12 (vM 8), ai cI (aM 10) 12 (vM 10), ai cI (aM 18) 427 (vM 18), ai cI (aM 21) 100 (vM 21), ai cI (aM 23) 100 (vM 23), ai cI (aM 24) 100 (vM 24), ai cI (aM 26) 7 (vM 26), ai cI (aM 27) 5 (vM 27), ai cI (aM 28) 64 (vM 28)] := hD
        refine lv_iinc (v := (x2 + (1 : Int32))) (lv' := [(2, .int (x2 + (1 : Int32))), (0, .ref (aM 0)), (1, .int x1)]) hx hb dX6_tale_96 hl (k := 2) rfl (congrArg (fun z => x2 + z) k_iconst_1) (by decide) rfl (fun ls hl => ?_)
        refine lv_goto (tgt := 83) hx hb dX6_tale_99 (by decide) ?_
        exact hrc (st vM 3 (Int32.toNatClampNeg x2) (0 : Int32)) x1 (x2 + (1 : Int32)) h _ _ _ hP hD hS (lv_sub hl [1, 2, 0] rfl)
  unfold m_X6_tale at h
  refine lv_aload_n hx hb dX6_tale_0 rfl (lv_at hl 0 rfl) ?_
  refine va_get (D := G) (ci := 6) (v := .ref (aM 2)) (C := RX6) (T := TX6) (N := 29) hx hb hts fi_X6_tale_X6 hown hEN.1 hP 0 rfl rfl 1 (by decide) (hts (.fieldLink RX6 13 "HourWellModel" "read" "[I") (List.mem_of_getElem? (i := 1) rfl)) (fun _ h9 => h9) rfl dX6_tale_1 ?_
  obtain ⟨o4, ho4, h⟩ := bnd_some h
  refine call_SJ (wr := [oX6 aM vM vT, ai cI (aM 1) 70 (vM 1), ai cI (aM 3) 40 (vM 3), ai cI (aM 4) 80 (vM 4), ai cZ (aM 5) 2 (vM 5), ai cI (aM 6) 200 (vM 6), ai cI (aM 8) 12 (vM 8), ai cI (aM 10) 12 (vM 10), ai cI (aM 18) 427 (vM 18), ai cI (aM 21) 100 (vM 21), ai cI (aM 23) 100 (vM 23), ai cI (aM 24) 100 (vM 24), ai cI (aM 26) 7 (vM 26), ai cI (aM 27) 5 (vM 27), ai cI (aM 28) 64 (vM 28)]) (As := [.ref (aM 2)]) (rest := []) ⟨hx, hb, hml, hown, hts⟩ (c_X6_clean l G cI cZ (aM 2) (vM 2) o4 ho4) (va_cwS 1 hts gX6_tale_X6_clean rfl rfl rfl hdS_X6_clean ⟨Nat.le_of_ble_eq_true rfl, Nat.le_of_ble_eq_true rfl⟩) hEN hA hP hD hS [2] [0, 1, 3, 4, 5, 6, 7, 8, 9, 10, 11, 12, 13, 14, 15] rfl (by decide) rfl (by decide) (by decide) rfl hl.1 rfl (Nat.le_of_ble_eq_true rfl) dX6_tale_4 ⟨Nat.le_of_ble_eq_true rfl, Nat.le_of_ble_eq_true rfl⟩ (fun H locs hP hD hS => ?_)
  have hP : va_P G vwCl [oX6 aM vM vT, ai cI (aM 1) 70 (vM 1), ai cI (aM 3) 40 (vM 3), ai cI (aM 4) 80 (vM 4), ai cZ (aM 5) 2 (vM 5), ai cI (aM 6) 200 (vM 6), ai cI (aM 8) 12 (vM 8), ai cI (aM 10) 12 (vM 10), ai cI (aM 18) 427 (vM 18), ai cI (aM 21) 100 (vM 21), ai cI (aM 23) 100 (vM 23), ai cI (aM 24) 100 (vM 24), ai cI (aM 26) 7 (vM 26), ai cI (aM 27) 5 (vM 27), ai cI (aM 28) 64 (vM 28), ai cI (aM 2) 70 o4] H := hP
  have hD : va_D A [oX6 aM vM vT, ai cI (aM 1) 70 (vM 1), ai cI (aM 3) 40 (vM 3), ai cI (aM 4) 80 (vM 4), ai cZ (aM 5) 2 (vM 5), ai cI (aM 6) 200 (vM 6), ai cI (aM 8) 12 (vM 8), ai cI (aM 10) 12 (vM 10), ai cI (aM 18) 427 (vM 18), ai cI (aM 21) 100 (vM 21), ai cI (aM 23) 100 (vM 23), ai cI (aM 24) 100 (vM 24), ai cI (aM 26) 7 (vM 26), ai cI (aM 27) 5 (vM 27), ai cI (aM 28) 64 (vM 28), ai cI (aM 2) 70 o4] := hD
  refine lv_aload_n hx hb dX6_tale_7 rfl (lv_at hl 0 rfl) ?_
  refine lv_iconst (v := (0 : Int32)) hx hb dX6_tale_8 k_iconst_0 ?_
  refine va_put (D := G) (ci := 6) (v := .int (0 : Int32)) (ty := .int) (C := RX6) (T := TX6) (N := 29) hx hb hts fi_X6_tale_X6 tyX6 tyX6_ok nmX6 hown hEN.1 hP hD hS 0 rfl rfl 12 (by decide) (hts (.fieldLink RX6 78 "HourWellModel" "at" "I") (List.mem_of_getElem? (i := 2) rfl)) (fun _ h9 => h9) rfl (by decide +kernel) rfl rfl (Nat.le_of_ble_eq_true rfl) dX6_tale_9 (fun H locs hP hD hS => ?_)
  have hP : va_P G vwCl [oX6 aM (st vM 0 12 (0 : Int32)) vT, ai cI (aM 1) 70 (vM 1), ai cI (aM 3) 40 (vM 3), ai cI (aM 4) 80 (vM 4), ai cZ (aM 5) 2 (vM 5), ai cI (aM 6) 200 (vM 6), ai cI (aM 8) 12 (vM 8), ai cI (aM 10) 12 (vM 10), ai cI (aM 18) 427 (vM 18), ai cI (aM 21) 100 (vM 21), ai cI (aM 23) 100 (vM 23), ai cI (aM 24) 100 (vM 24), ai cI (aM 26) 7 (vM 26), ai cI (aM 27) 5 (vM 27), ai cI (aM 28) 64 (vM 28), ai cI (aM 2) 70 o4] H := hP
  have hD : va_D A [oX6 aM (st vM 0 12 (0 : Int32)) vT, ai cI (aM 1) 70 (vM 1), ai cI (aM 3) 40 (vM 3), ai cI (aM 4) 80 (vM 4), ai cZ (aM 5) 2 (vM 5), ai cI (aM 6) 200 (vM 6), ai cI (aM 8) 12 (vM 8), ai cI (aM 10) 12 (vM 10), ai cI (aM 18) 427 (vM 18), ai cI (aM 21) 100 (vM 21), ai cI (aM 23) 100 (vM 23), ai cI (aM 24) 100 (vM 24), ai cI (aM 26) 7 (vM 26), ai cI (aM 27) 5 (vM 27), ai cI (aM 28) 64 (vM 28), ai cI (aM 2) 70 o4] := hD
  refine lv_aload_n hx hb dX6_tale_12 rfl (lv_at hl 0 rfl) ?_
  refine lv_iconst (v := (0 : Int32)) hx hb dX6_tale_13 k_iconst_0 ?_
  refine va_put (D := G) (ci := 6) (v := .int (0 : Int32)) (ty := .boolean) (C := RX6) (T := TX6) (N := 29) hx hb hts fi_X6_tale_X6 tyX6 tyX6_ok nmX6 hown hEN.1 hP hD hS 0 rfl rfl 16 (by decide) (hts (.fieldLink RX6 120 "HourWellModel" "isOff" "Z") (List.mem_of_getElem? (i := 3) rfl)) (fun _ h9 => h9) rfl (by decide +kernel) rfl rfl (Nat.le_of_ble_eq_true rfl) dX6_tale_14 (fun H locs hP hD hS => ?_)
  have hP : va_P G vwCl [oX6 aM (st (st vM 0 12 (0 : Int32)) 0 16 (0 : Int32)) vT, ai cI (aM 1) 70 (vM 1), ai cI (aM 3) 40 (vM 3), ai cI (aM 4) 80 (vM 4), ai cZ (aM 5) 2 (vM 5), ai cI (aM 6) 200 (vM 6), ai cI (aM 8) 12 (vM 8), ai cI (aM 10) 12 (vM 10), ai cI (aM 18) 427 (vM 18), ai cI (aM 21) 100 (vM 21), ai cI (aM 23) 100 (vM 23), ai cI (aM 24) 100 (vM 24), ai cI (aM 26) 7 (vM 26), ai cI (aM 27) 5 (vM 27), ai cI (aM 28) 64 (vM 28), ai cI (aM 2) 70 o4] H := hP
  have hD : va_D A [oX6 aM (st (st vM 0 12 (0 : Int32)) 0 16 (0 : Int32)) vT, ai cI (aM 1) 70 (vM 1), ai cI (aM 3) 40 (vM 3), ai cI (aM 4) 80 (vM 4), ai cZ (aM 5) 2 (vM 5), ai cI (aM 6) 200 (vM 6), ai cI (aM 8) 12 (vM 8), ai cI (aM 10) 12 (vM 10), ai cI (aM 18) 427 (vM 18), ai cI (aM 21) 100 (vM 21), ai cI (aM 23) 100 (vM 23), ai cI (aM 24) 100 (vM 24), ai cI (aM 26) 7 (vM 26), ai cI (aM 27) 5 (vM 27), ai cI (aM 28) 64 (vM 28), ai cI (aM 2) 70 o4] := hD
  refine lv_iconst (v := (0 : Int32)) hx hb dX6_tale_17 k_iconst_0 ?_
  refine lv_istore_n (lv' := [(1, .int (0 : Int32)), (0, .ref (aM 0))]) hx hb dX6_tale_18 rfl hl (by decide) rfl (fun ls hl => ?_)
  refine lv_aload_n hx hb dX6_tale_19 rfl (lv_at hl 1 rfl) ?_
  obtain ⟨o20, ho20, h⟩ := bnd_some h
  refine call_VJ (wr := []) (As := []) (rest := []) ⟨hx, hb, hml, hown, hts⟩ (c_X6_next l G cI cZ aM vT (st (st (upR vM 2 o4) 0 12 (0 : Int32)) 0 16 (0 : Int32)) o20 ho20) (cwV 0 hts gX6_tale_X6_next rfl rfl rfl hdV_X6_next ⟨Nat.le_of_ble_eq_true rfl, Nat.le_of_ble_eq_true rfl⟩) hEN hA hP hD hS [0, 1, 15, 2, 3, 4, 5, 6, 7, 8, 9, 10, 11, 12, 13, 14] [] rfl (by decide) rfl (by decide) (by decide) 0 rfl rfl rfl hl.1 rfl (Nat.le_of_ble_eq_true rfl) dX6_tale_20 ⟨Nat.le_of_ble_eq_true rfl, Nat.le_of_ble_eq_true rfl⟩ (fun H locs hP hD hS => ?_)
  have hP : va_P G vwCl [oX6 aM o20 vT, ai cI (aM 1) 70 (o20 1), ai cI (aM 2) 70 (o20 2), ai cI (aM 3) 40 (o20 3), ai cI (aM 4) 80 (o20 4), ai cZ (aM 5) 2 (o20 5), ai cI (aM 6) 200 (o20 6), ai cI (aM 8) 12 (o20 8), ai cI (aM 10) 12 (o20 10), ai cI (aM 18) 427 (o20 18), ai cI (aM 21) 100 (o20 21), ai cI (aM 23) 100 (o20 23), ai cI (aM 24) 100 (o20 24), ai cI (aM 26) 7 (o20 26), ai cI (aM 27) 5 (o20 27), ai cI (aM 28) 64 (o20 28)] H := hP
  have hD : va_D A [oX6 aM o20 vT, ai cI (aM 1) 70 (o20 1), ai cI (aM 2) 70 (o20 2), ai cI (aM 3) 40 (o20 3), ai cI (aM 4) 80 (o20 4), ai cZ (aM 5) 2 (o20 5), ai cI (aM 6) 200 (o20 6), ai cI (aM 8) 12 (o20 8), ai cI (aM 10) 12 (o20 10), ai cI (aM 18) 427 (o20 18), ai cI (aM 21) 100 (o20 21), ai cI (aM 23) 100 (o20 23), ai cI (aM 24) 100 (o20 24), ai cI (aM 26) 7 (o20 26), ai cI (aM 27) 5 (o20 27), ai cI (aM 28) 64 (o20 28)] := hD
  obtain ⟨o23_1, ho23_1, h⟩ := bnd_some h
  refine L23 o23_1 (fun r er => ?_) (fun o23_1x er H locs ls hP hD hS hl => ?_) FU o20 (0 : Int32) ho23_1 _ _ _ hP hD hS (lv_sub hl [1, 0] rfl)
  · subst er
    have h := (sm_l _ _ _).symm.trans h
    exact Option.some.inj h
  · subst er
    have h := (sm_r _ _ _).symm.trans h
    refine lv_iconst (v := (0 : Int32)) hx hb dX6_tale_55 k_iconst_0 ?_
    refine lv_istore_n (lv' := [(2, .int (0 : Int32)), (0, .ref (aM 0)), (1, .int o23_1x.2)]) hx hb dX6_tale_56 rfl hl (by decide) rfl (fun ls hl => ?_)
    obtain ⟨o57_2, ho57_2, h⟩ := bnd_some h
    refine L57 o57_2 (fun o57_2e er H locs ls hP hD hS hl => ?_) FU o23_1x.1 o23_1x.2 (0 : Int32) ho57_2 _ _ _ hP hD hS (lv_sub hl [1, 2, 0] rfl)
    subst er
    refine lv_iconst (v := (0 : Int32)) hx hb dX6_tale_81 k_iconst_0 ?_
    refine lv_istore_n (lv' := [(2, .int (0 : Int32)), (0, .ref (aM 0)), (1, .int o57_2.2)]) hx hb dX6_tale_82 rfl hl (by decide) rfl (fun ls hl => ?_)
    obtain ⟨o83_3, ho83_3, h⟩ := bnd_some h
    refine L83 o83_3 (fun o83_3e er H locs ls hP hD hS hl => ?_) FU o57_2.1 o57_2.2 (0 : Int32) ho83_3 _ _ _ hP hD hS (lv_sub hl [1, 2, 0] rfl)
    subst er
    refine lv_aload_n hx hb dX6_tale_102 rfl (lv_at hl 0 rfl) ?_
    refine lv_iconst (v := (0 : Int32)) hx hb dX6_tale_103 k_iconst_0 ?_
    refine va_put (D := G) (ci := 6) (v := .int (0 : Int32)) (ty := .int) (C := RX6) (T := TX6) (N := 29) hx hb hts fi_X6_tale_X6 tyX6 tyX6_ok nmX6 hown hEN.1 hP hD hS 0 rfl rfl 6 (by decide) (hts (.fieldLink RX6 66 "HourWellModel" "size" "I") (List.mem_of_getElem? (i := 8) rfl)) (fun _ h9 => h9) rfl (by decide +kernel) rfl rfl (Nat.le_of_ble_eq_true rfl) dX6_tale_104 (fun H locs hP hD hS => ?_)
    have hP : va_P G vwCl [oX6 aM (st o83_3.1 0 6 (0 : Int32)) vT, ai cI (aM 1) 70 (o83_3.1 1), ai cI (aM 2) 70 (o83_3.1 2), ai cI (aM 3) 40 (o83_3.1 3), ai cI (aM 4) 80 (o83_3.1 4), ai cZ (aM 5) 2 (o83_3.1 5), ai cI (aM 6) 200 (o83_3.1 6), ai cI (aM 8) 12 (o83_3.1 8), ai cI (aM 10) 12 (o83_3.1 10), ai cI (aM 18) 427 (o83_3.1 18), ai cI (aM 21) 100 (o83_3.1 21), ai cI (aM 23) 100 (o83_3.1 23), ai cI (aM 24) 100 (o83_3.1 24), ai cI (aM 26) 7 (o83_3.1 26), ai cI (aM 27) 5 (o83_3.1 27), ai cI (aM 28) 64 (o83_3.1 28)] H := hP
    have hD : va_D A [oX6 aM (st o83_3.1 0 6 (0 : Int32)) vT, ai cI (aM 1) 70 (o83_3.1 1), ai cI (aM 2) 70 (o83_3.1 2), ai cI (aM 3) 40 (o83_3.1 3), ai cI (aM 4) 80 (o83_3.1 4), ai cZ (aM 5) 2 (o83_3.1 5), ai cI (aM 6) 200 (o83_3.1 6), ai cI (aM 8) 12 (o83_3.1 8), ai cI (aM 10) 12 (o83_3.1 10), ai cI (aM 18) 427 (o83_3.1 18), ai cI (aM 21) 100 (o83_3.1 21), ai cI (aM 23) 100 (o83_3.1 23), ai cI (aM 24) 100 (o83_3.1 24), ai cI (aM 26) 7 (o83_3.1 26), ai cI (aM 27) 5 (o83_3.1 27), ai cI (aM 28) 64 (o83_3.1 28)] := hD
    refine lv_aload_n hx hb dX6_tale_107 rfl (lv_at hl 0 rfl) ?_
    refine lv_iconst (v := (0 : Int32)) hx hb dX6_tale_108 k_iconst_0 ?_
    refine va_put (D := G) (ci := 6) (v := .int (0 : Int32)) (ty := .int) (C := RX6) (T := TX6) (N := 29) hx hb hts fi_X6_tale_X6 tyX6 tyX6_ok nmX6 hown hEN.1 hP hD hS 0 rfl rfl 8 (by decide) (hts (.fieldLink RX6 145 "HourWellModel" "swapMany" "I") (List.mem_of_getElem? (i := 9) rfl)) (fun _ h9 => h9) rfl (by decide +kernel) rfl rfl (Nat.le_of_ble_eq_true rfl) dX6_tale_109 (fun H locs hP hD hS => ?_)
    have hP : va_P G vwCl [oX6 aM (st (st o83_3.1 0 6 (0 : Int32)) 0 8 (0 : Int32)) vT, ai cI (aM 1) 70 (o83_3.1 1), ai cI (aM 2) 70 (o83_3.1 2), ai cI (aM 3) 40 (o83_3.1 3), ai cI (aM 4) 80 (o83_3.1 4), ai cZ (aM 5) 2 (o83_3.1 5), ai cI (aM 6) 200 (o83_3.1 6), ai cI (aM 8) 12 (o83_3.1 8), ai cI (aM 10) 12 (o83_3.1 10), ai cI (aM 18) 427 (o83_3.1 18), ai cI (aM 21) 100 (o83_3.1 21), ai cI (aM 23) 100 (o83_3.1 23), ai cI (aM 24) 100 (o83_3.1 24), ai cI (aM 26) 7 (o83_3.1 26), ai cI (aM 27) 5 (o83_3.1 27), ai cI (aM 28) 64 (o83_3.1 28)] H := hP
    have hD : va_D A [oX6 aM (st (st o83_3.1 0 6 (0 : Int32)) 0 8 (0 : Int32)) vT, ai cI (aM 1) 70 (o83_3.1 1), ai cI (aM 2) 70 (o83_3.1 2), ai cI (aM 3) 40 (o83_3.1 3), ai cI (aM 4) 80 (o83_3.1 4), ai cZ (aM 5) 2 (o83_3.1 5), ai cI (aM 6) 200 (o83_3.1 6), ai cI (aM 8) 12 (o83_3.1 8), ai cI (aM 10) 12 (o83_3.1 10), ai cI (aM 18) 427 (o83_3.1 18), ai cI (aM 21) 100 (o83_3.1 21), ai cI (aM 23) 100 (o83_3.1 23), ai cI (aM 24) 100 (o83_3.1 24), ai cI (aM 26) 7 (o83_3.1 26), ai cI (aM 27) 5 (o83_3.1 27), ai cI (aM 28) 64 (o83_3.1 28)] := hD
    refine lv_aload_n hx hb dX6_tale_112 rfl (lv_at hl 0 rfl) ?_
    refine lv_iconst (v := (0 : Int32)) hx hb dX6_tale_113 k_iconst_0 ?_
    refine va_put (D := G) (ci := 6) (v := .int (0 : Int32)) (ty := .int) (C := RX6) (T := TX6) (N := 29) hx hb hts fi_X6_tale_X6 tyX6 tyX6_ok nmX6 hown hEN.1 hP hD hS 0 rfl rfl 10 (by decide) (hts (.fieldLink RX6 148 "HourWellModel" "tasteMany" "I") (List.mem_of_getElem? (i := 10) rfl)) (fun _ h9 => h9) rfl (by decide +kernel) rfl rfl (Nat.le_of_ble_eq_true rfl) dX6_tale_114 (fun H locs hP hD hS => ?_)
    have hP : va_P G vwCl [oX6 aM (st (st (st o83_3.1 0 6 (0 : Int32)) 0 8 (0 : Int32)) 0 10 (0 : Int32)) vT, ai cI (aM 1) 70 (o83_3.1 1), ai cI (aM 2) 70 (o83_3.1 2), ai cI (aM 3) 40 (o83_3.1 3), ai cI (aM 4) 80 (o83_3.1 4), ai cZ (aM 5) 2 (o83_3.1 5), ai cI (aM 6) 200 (o83_3.1 6), ai cI (aM 8) 12 (o83_3.1 8), ai cI (aM 10) 12 (o83_3.1 10), ai cI (aM 18) 427 (o83_3.1 18), ai cI (aM 21) 100 (o83_3.1 21), ai cI (aM 23) 100 (o83_3.1 23), ai cI (aM 24) 100 (o83_3.1 24), ai cI (aM 26) 7 (o83_3.1 26), ai cI (aM 27) 5 (o83_3.1 27), ai cI (aM 28) 64 (o83_3.1 28)] H := hP
    have hD : va_D A [oX6 aM (st (st (st o83_3.1 0 6 (0 : Int32)) 0 8 (0 : Int32)) 0 10 (0 : Int32)) vT, ai cI (aM 1) 70 (o83_3.1 1), ai cI (aM 2) 70 (o83_3.1 2), ai cI (aM 3) 40 (o83_3.1 3), ai cI (aM 4) 80 (o83_3.1 4), ai cZ (aM 5) 2 (o83_3.1 5), ai cI (aM 6) 200 (o83_3.1 6), ai cI (aM 8) 12 (o83_3.1 8), ai cI (aM 10) 12 (o83_3.1 10), ai cI (aM 18) 427 (o83_3.1 18), ai cI (aM 21) 100 (o83_3.1 21), ai cI (aM 23) 100 (o83_3.1 23), ai cI (aM 24) 100 (o83_3.1 24), ai cI (aM 26) 7 (o83_3.1 26), ai cI (aM 27) 5 (o83_3.1 27), ai cI (aM 28) 64 (o83_3.1 28)] := hD
    refine lv_aload_n hx hb dX6_tale_117 rfl (lv_at hl 0 rfl) ?_
    refine va_get (D := G) (ci := 6) (v := .ref (aM 5)) (C := RX6) (T := TX6) (N := 29) hx hb hts fi_X6_tale_X6 hown hEN.1 hP 0 rfl rfl 4 (by decide) (hts (.fieldLink RX6 22 "HourWellModel" "kept" "[Z") (List.mem_of_getElem? (i := 11) rfl)) (fun _ h9 => h9) rfl dX6_tale_118 ?_
    refine lv_iconst (v := (0 : Int32)) hx hb dX6_tale_121 k_iconst_0 ?_
    refine lv_iconst (v := (0 : Int32)) hx hb dX6_tale_122 k_iconst_0 ?_
    refine va_zast (f := (o83_3.1 5)) hx hb hEN.1 hP hD hS 5 1 rfl rfl (inb_in (i := (0 : Int32)) (n := 2) rfl) dX6_tale_123 (fun H locs hP hD hS => ?_)
    have hP : va_P G vwCl [oX6 aM (st (st (st o83_3.1 0 6 (0 : Int32)) 0 8 (0 : Int32)) 0 10 (0 : Int32)) vT, ai cI (aM 1) 70 (o83_3.1 1), ai cI (aM 2) 70 (o83_3.1 2), ai cI (aM 3) 40 (o83_3.1 3), ai cI (aM 4) 80 (o83_3.1 4), ai cZ (aM 5) 2 (upd (o83_3.1 5) (Int32.toNatClampNeg (0 : Int32)) (vp_nar .boolean (0 : Int32))), ai cI (aM 6) 200 (o83_3.1 6), ai cI (aM 8) 12 (o83_3.1 8), ai cI (aM 10) 12 (o83_3.1 10), ai cI (aM 18) 427 (o83_3.1 18), ai cI (aM 21) 100 (o83_3.1 21), ai cI (aM 23) 100 (o83_3.1 23), ai cI (aM 24) 100 (o83_3.1 24), ai cI (aM 26) 7 (o83_3.1 26), ai cI (aM 27) 5 (o83_3.1 27), ai cI (aM 28) 64 (o83_3.1 28)] H := hP
    have hD : va_D A [oX6 aM (st (st (st o83_3.1 0 6 (0 : Int32)) 0 8 (0 : Int32)) 0 10 (0 : Int32)) vT, ai cI (aM 1) 70 (o83_3.1 1), ai cI (aM 2) 70 (o83_3.1 2), ai cI (aM 3) 40 (o83_3.1 3), ai cI (aM 4) 80 (o83_3.1 4), ai cZ (aM 5) 2 (upd (o83_3.1 5) (Int32.toNatClampNeg (0 : Int32)) (vp_nar .boolean (0 : Int32))), ai cI (aM 6) 200 (o83_3.1 6), ai cI (aM 8) 12 (o83_3.1 8), ai cI (aM 10) 12 (o83_3.1 10), ai cI (aM 18) 427 (o83_3.1 18), ai cI (aM 21) 100 (o83_3.1 21), ai cI (aM 23) 100 (o83_3.1 23), ai cI (aM 24) 100 (o83_3.1 24), ai cI (aM 26) 7 (o83_3.1 26), ai cI (aM 27) 5 (o83_3.1 27), ai cI (aM 28) 64 (o83_3.1 28)] := hD
    refine lv_aload_n hx hb dX6_tale_124 rfl (lv_at hl 0 rfl) ?_
    refine va_get (D := G) (ci := 6) (v := .ref (aM 5)) (C := RX6) (T := TX6) (N := 29) hx hb hts fi_X6_tale_X6 hown hEN.1 hP 0 rfl rfl 4 (by decide) (hts (.fieldLink RX6 22 "HourWellModel" "kept" "[Z") (List.mem_of_getElem? (i := 11) rfl)) (fun _ h9 => h9) rfl dX6_tale_125 ?_
    refine lv_iconst (v := (1 : Int32)) hx hb dX6_tale_128 k_iconst_1 ?_
    refine lv_iconst (v := (0 : Int32)) hx hb dX6_tale_129 k_iconst_0 ?_
    refine va_zast (f := (upd (o83_3.1 5) (Int32.toNatClampNeg (0 : Int32)) (vp_nar .boolean (0 : Int32)))) hx hb hEN.1 hP hD hS 5 1 rfl rfl (inb_in (i := (1 : Int32)) (n := 2) rfl) dX6_tale_130 (fun H locs hP hD hS => ?_)
    have hP : va_P G vwCl [oX6 aM (st (st (st o83_3.1 0 6 (0 : Int32)) 0 8 (0 : Int32)) 0 10 (0 : Int32)) vT, ai cI (aM 1) 70 (o83_3.1 1), ai cI (aM 2) 70 (o83_3.1 2), ai cI (aM 3) 40 (o83_3.1 3), ai cI (aM 4) 80 (o83_3.1 4), ai cZ (aM 5) 2 (upd (upd (o83_3.1 5) (Int32.toNatClampNeg (0 : Int32)) (vp_nar .boolean (0 : Int32))) (Int32.toNatClampNeg (1 : Int32)) (vp_nar .boolean (0 : Int32))), ai cI (aM 6) 200 (o83_3.1 6), ai cI (aM 8) 12 (o83_3.1 8), ai cI (aM 10) 12 (o83_3.1 10), ai cI (aM 18) 427 (o83_3.1 18), ai cI (aM 21) 100 (o83_3.1 21), ai cI (aM 23) 100 (o83_3.1 23), ai cI (aM 24) 100 (o83_3.1 24), ai cI (aM 26) 7 (o83_3.1 26), ai cI (aM 27) 5 (o83_3.1 27), ai cI (aM 28) 64 (o83_3.1 28)] H := hP
    have hD : va_D A [oX6 aM (st (st (st o83_3.1 0 6 (0 : Int32)) 0 8 (0 : Int32)) 0 10 (0 : Int32)) vT, ai cI (aM 1) 70 (o83_3.1 1), ai cI (aM 2) 70 (o83_3.1 2), ai cI (aM 3) 40 (o83_3.1 3), ai cI (aM 4) 80 (o83_3.1 4), ai cZ (aM 5) 2 (upd (upd (o83_3.1 5) (Int32.toNatClampNeg (0 : Int32)) (vp_nar .boolean (0 : Int32))) (Int32.toNatClampNeg (1 : Int32)) (vp_nar .boolean (0 : Int32))), ai cI (aM 6) 200 (o83_3.1 6), ai cI (aM 8) 12 (o83_3.1 8), ai cI (aM 10) 12 (o83_3.1 10), ai cI (aM 18) 427 (o83_3.1 18), ai cI (aM 21) 100 (o83_3.1 21), ai cI (aM 23) 100 (o83_3.1 23), ai cI (aM 24) 100 (o83_3.1 24), ai cI (aM 26) 7 (o83_3.1 26), ai cI (aM 27) 5 (o83_3.1 27), ai cI (aM 28) 64 (o83_3.1 28)] := hD
    refine lv_iload_n hx hb dX6_tale_131 rfl (lv_at hl 1 rfl) ?_
    have hres := Option.some.inj h
    subst hres
    exact hRet 132 _ _ _ hP hD hS dX6_tale_132
abbrev rm_X6_isPlace : Room := { frames := 1, cells := 0, slots := 0, locals := 25 }
theorem fi_X6_isPlace_X6 : ∀ w ∈ wsX60, w ∈ wsX6_isPlace := fun _ h => List.mem_cons_of_mem _ (List.mem_append_right _ h)
theorem hdV_X6_isPlace : yX6_isPlace.cls = RX6 ∧ yX6_isPlace.cls ≠ "java/lang/invoke/MethodHandle" ∧ yX6_isPlace.cls ≠ "java/lang/invoke/VarHandle" ∧ (parseMethodDescriptor yX6_isPlace.desc).map (fun d => d.parameters.length) = some 1 := by decide +kernel
set_option maxRecDepth 100000 in
set_option maxHeartbeats 4000000 in
theorem c_X6_isPlace (l : Launch) (G : va_G) (cI cZ : ClassId) (aM : Nat → Nat) (vT : Int64) (vM : Ob) (x1 : Int32) (res : Int32) (h : m_X6_isPlace vM x1 = some res) : Ct l yX6_isPlace wsX6_isPlace rm_X6_isPlace G cI cZ [.ref (aM 0), .int x1] [oX6 aM vM vT, ai cI (aM 1) 70 (vM 1)] (some (.int res)) [oX6 aM vM vT, ai cI (aM 1) 70 (vM 1)] := by
  refine Ct.of_z (maxL := 2) (by decide) rfl (Nat.le_of_ble_eq_true rfl) ?_
  intro p e s m below meth c args hx hb hml hown hts A hA hEN hP hD hS Q hRet ls hl
  have hown : s.vm.findClass RX6 = some m.cls := hown
  have hl : lv_has ls 2 [(0, .ref (aM 0)), (1, .int x1)] := hl
  unfold m_X6_isPlace at h
  refine lv_iload_n hx hb dX6_isPlace_0 rfl (lv_at hl 1 rfl) ?_
  refine lv_i2l (v := (Int32.toInt64 x1)) hx hb dX6_isPlace_1 rfl ?_
  refine lv_lconst (v := (0 : Int64)) hx hb dX6_isPlace_2 (by decide) ?_
  refine lv_aload_n hx hb dX6_isPlace_3 rfl (lv_at hl 0 rfl) ?_
  refine va_get (D := G) (ci := 6) (v := .ref (aM 1)) (C := RX6) (T := TX6) (N := 29) hx hb hts fi_X6_isPlace_X6 hown hEN.1 hP 0 rfl rfl 0 (by decide) (hts (.fieldLink RX6 7 "HourWellModel" "tale" "[I") (List.mem_of_getElem? (i := 1) rfl)) (fun _ h9 => h9) rfl dX6_isPlace_4 ?_
  refine lv_iconst (v := (0 : Int32)) hx hb dX6_isPlace_7 k_iconst_0 ?_
  refine va_iald (f := (vM 1)) hx hb hEN.1 hP 1 0 rfl rfl (inb_in (i := (0 : Int32)) (n := 70) rfl) dX6_isPlace_8 ?_
  refine lv_iconst (v := (1 : Int32)) hx hb dX6_isPlace_9 k_iconst_1 ?_
  refine lv_isub hx hb dX6_isPlace_10 ?_
  refine lv_i2l (v := (Int32.toInt64 (((vM 1) (Int32.toNatClampNeg (0 : Int32))) - (1 : Int32)))) hx hb dX6_isPlace_11 rfl ?_
  obtain ⟨o12, ho12, h⟩ := bnd_some h
  refine call_S0 (As := [.long (Int32.toInt64 x1), .long (0 : Int64), .long (Int32.toInt64 (((vM 1) (Int32.toNatClampNeg (0 : Int32))) - (1 : Int32)))]) (rest := []) ⟨hx, hb, hml, hown, hts⟩ (c_X6_in l G cI cZ  (Int32.toInt64 x1) (0 : Int64) (Int32.toInt64 (((vM 1) (Int32.toNatClampNeg (0 : Int32))) - (1 : Int32))) o12 ho12) (va_cwS 3 hts gX6_isPlace_X6_in rfl rfl rfl hdS_X6_in ⟨Nat.le_of_ble_eq_true rfl, Nat.le_of_ble_eq_true rfl⟩) hEN hA hP hD hS [] rfl (by decide) rfl hl.1 rfl (Nat.le_of_ble_eq_true rfl) dX6_isPlace_12 ⟨Nat.le_of_ble_eq_true rfl, Nat.le_of_ble_eq_true rfl⟩ (fun H locs hP hS => ?_)
  obtain ⟨hg15, h⟩ := grd_some h
  have hres := Option.some.inj h
  subst hres
  exact hRet 15 (bz_n hg15) _ _ _ hP hD hS dX6_isPlace_15
abbrev rm_X6_isRoad : Room := { frames := 1, cells := 0, slots := 0, locals := 25 }
theorem fi_X6_isRoad_X6 : ∀ w ∈ wsX60, w ∈ wsX6_isRoad := fun _ h => List.mem_cons_of_mem _ (List.mem_append_right _ h)
theorem hdV_X6_isRoad : yX6_isRoad.cls = RX6 ∧ yX6_isRoad.cls ≠ "java/lang/invoke/MethodHandle" ∧ yX6_isRoad.cls ≠ "java/lang/invoke/VarHandle" ∧ (parseMethodDescriptor yX6_isRoad.desc).map (fun d => d.parameters.length) = some 1 := by decide +kernel
set_option maxRecDepth 100000 in
set_option maxHeartbeats 4000000 in
theorem c_X6_isRoad (l : Launch) (G : va_G) (cI cZ : ClassId) (aM : Nat → Nat) (vT : Int64) (vM : Ob) (x1 : Int32) (res : Int32) (h : m_X6_isRoad vM x1 = some res) : Ct l yX6_isRoad wsX6_isRoad rm_X6_isRoad G cI cZ [.ref (aM 0), .int x1] [oX6 aM vM vT, ai cI (aM 1) 70 (vM 1)] (some (.int res)) [oX6 aM vM vT, ai cI (aM 1) 70 (vM 1)] := by
  refine Ct.of_z (maxL := 2) (by decide) rfl (Nat.le_of_ble_eq_true rfl) ?_
  intro p e s m below meth c args hx hb hml hown hts A hA hEN hP hD hS Q hRet ls hl
  have hown : s.vm.findClass RX6 = some m.cls := hown
  have hl : lv_has ls 2 [(0, .ref (aM 0)), (1, .int x1)] := hl
  unfold m_X6_isRoad at h
  refine lv_iload_n hx hb dX6_isRoad_0 rfl (lv_at hl 1 rfl) ?_
  refine lv_i2l (v := (Int32.toInt64 x1)) hx hb dX6_isRoad_1 rfl ?_
  refine lv_lconst (v := (0 : Int64)) hx hb dX6_isRoad_2 (by decide) ?_
  refine lv_aload_n hx hb dX6_isRoad_3 rfl (lv_at hl 0 rfl) ?_
  refine va_get (D := G) (ci := 6) (v := .ref (aM 1)) (C := RX6) (T := TX6) (N := 29) hx hb hts fi_X6_isRoad_X6 hown hEN.1 hP 0 rfl rfl 0 (by decide) (hts (.fieldLink RX6 7 "HourWellModel" "tale" "[I") (List.mem_of_getElem? (i := 1) rfl)) (fun _ h9 => h9) rfl dX6_isRoad_4 ?_
  refine lv_iconst (v := (1 : Int32)) hx hb dX6_isRoad_7 k_iconst_1 ?_
  refine va_iald (f := (vM 1)) hx hb hEN.1 hP 1 0 rfl rfl (inb_in (i := (1 : Int32)) (n := 70) rfl) dX6_isRoad_8 ?_
  refine lv_iconst (v := (1 : Int32)) hx hb dX6_isRoad_9 k_iconst_1 ?_
  refine lv_isub hx hb dX6_isRoad_10 ?_
  refine lv_i2l (v := (Int32.toInt64 (((vM 1) (Int32.toNatClampNeg (1 : Int32))) - (1 : Int32)))) hx hb dX6_isRoad_11 rfl ?_
  obtain ⟨o12, ho12, h⟩ := bnd_some h
  refine call_S0 (As := [.long (Int32.toInt64 x1), .long (0 : Int64), .long (Int32.toInt64 (((vM 1) (Int32.toNatClampNeg (1 : Int32))) - (1 : Int32)))]) (rest := []) ⟨hx, hb, hml, hown, hts⟩ (c_X6_in l G cI cZ  (Int32.toInt64 x1) (0 : Int64) (Int32.toInt64 (((vM 1) (Int32.toNatClampNeg (1 : Int32))) - (1 : Int32))) o12 ho12) (va_cwS 3 hts gX6_isRoad_X6_in rfl rfl rfl hdS_X6_in ⟨Nat.le_of_ble_eq_true rfl, Nat.le_of_ble_eq_true rfl⟩) hEN hA hP hD hS [] rfl (by decide) rfl hl.1 rfl (Nat.le_of_ble_eq_true rfl) dX6_isRoad_12 ⟨Nat.le_of_ble_eq_true rfl, Nat.le_of_ble_eq_true rfl⟩ (fun H locs hP hS => ?_)
  obtain ⟨hg15, h⟩ := grd_some h
  have hres := Option.some.inj h
  subst hres
  exact hRet 15 (bz_n hg15) _ _ _ hP hD hS dX6_isRoad_15
abbrev rm_X6_isHost : Room := { frames := 1, cells := 0, slots := 0, locals := 25 }
theorem fi_X6_isHost_X6 : ∀ w ∈ wsX60, w ∈ wsX6_isHost := fun _ h => List.mem_cons_of_mem _ (List.mem_append_right _ h)
theorem hdV_X6_isHost : yX6_isHost.cls = RX6 ∧ yX6_isHost.cls ≠ "java/lang/invoke/MethodHandle" ∧ yX6_isHost.cls ≠ "java/lang/invoke/VarHandle" ∧ (parseMethodDescriptor yX6_isHost.desc).map (fun d => d.parameters.length) = some 1 := by decide +kernel
set_option maxRecDepth 100000 in
set_option maxHeartbeats 4000000 in
theorem c_X6_isHost (l : Launch) (G : va_G) (cI cZ : ClassId) (aM : Nat → Nat) (vT : Int64) (vM : Ob) (x1 : Int32) (res : Int32) (h : m_X6_isHost vM x1 = some res) : Ct l yX6_isHost wsX6_isHost rm_X6_isHost G cI cZ [.ref (aM 0), .int x1] [oX6 aM vM vT, ai cI (aM 1) 70 (vM 1)] (some (.int res)) [oX6 aM vM vT, ai cI (aM 1) 70 (vM 1)] := by
  refine Ct.of_z (maxL := 2) (by decide) rfl (Nat.le_of_ble_eq_true rfl) ?_
  intro p e s m below meth c args hx hb hml hown hts A hA hEN hP hD hS Q hRet ls hl
  have hown : s.vm.findClass RX6 = some m.cls := hown
  have hl : lv_has ls 2 [(0, .ref (aM 0)), (1, .int x1)] := hl
  unfold m_X6_isHost at h
  refine lv_iload_n hx hb dX6_isHost_0 rfl (lv_at hl 1 rfl) ?_
  refine lv_i2l (v := (Int32.toInt64 x1)) hx hb dX6_isHost_1 rfl ?_
  refine lv_lconst (v := (0 : Int64)) hx hb dX6_isHost_2 (by decide) ?_
  refine lv_aload_n hx hb dX6_isHost_3 rfl (lv_at hl 0 rfl) ?_
  refine va_get (D := G) (ci := 6) (v := .ref (aM 1)) (C := RX6) (T := TX6) (N := 29) hx hb hts fi_X6_isHost_X6 hown hEN.1 hP 0 rfl rfl 0 (by decide) (hts (.fieldLink RX6 7 "HourWellModel" "tale" "[I") (List.mem_of_getElem? (i := 1) rfl)) (fun _ h9 => h9) rfl dX6_isHost_4 ?_
  refine lv_iconst (v := (2 : Int32)) hx hb dX6_isHost_7 k_iconst_2 ?_
  refine va_iald (f := (vM 1)) hx hb hEN.1 hP 1 0 rfl rfl (inb_in (i := (2 : Int32)) (n := 70) rfl) dX6_isHost_8 ?_
  refine lv_iconst (v := (1 : Int32)) hx hb dX6_isHost_9 k_iconst_1 ?_
  refine lv_isub hx hb dX6_isHost_10 ?_
  refine lv_i2l (v := (Int32.toInt64 (((vM 1) (Int32.toNatClampNeg (2 : Int32))) - (1 : Int32)))) hx hb dX6_isHost_11 rfl ?_
  obtain ⟨o12, ho12, h⟩ := bnd_some h
  refine call_S0 (As := [.long (Int32.toInt64 x1), .long (0 : Int64), .long (Int32.toInt64 (((vM 1) (Int32.toNatClampNeg (2 : Int32))) - (1 : Int32)))]) (rest := []) ⟨hx, hb, hml, hown, hts⟩ (c_X6_in l G cI cZ  (Int32.toInt64 x1) (0 : Int64) (Int32.toInt64 (((vM 1) (Int32.toNatClampNeg (2 : Int32))) - (1 : Int32))) o12 ho12) (va_cwS 3 hts gX6_isHost_X6_in rfl rfl rfl hdS_X6_in ⟨Nat.le_of_ble_eq_true rfl, Nat.le_of_ble_eq_true rfl⟩) hEN hA hP hD hS [] rfl (by decide) rfl hl.1 rfl (Nat.le_of_ble_eq_true rfl) dX6_isHost_12 ⟨Nat.le_of_ble_eq_true rfl, Nat.le_of_ble_eq_true rfl⟩ (fun H locs hP hS => ?_)
  obtain ⟨hg15, h⟩ := grd_some h
  have hres := Option.some.inj h
  subst hres
  exact hRet 15 (bz_n hg15) _ _ _ hP hD hS dX6_isHost_15
abbrev rm_X6_isThing : Room := { frames := 1, cells := 0, slots := 0, locals := 25 }
theorem hdS_X6_isThing : yX6_isThing.cls ≠ "java/lang/invoke/MethodHandle" ∧ yX6_isThing.cls ≠ "java/lang/invoke/VarHandle" ∧ (parseMethodDescriptor yX6_isThing.desc).map (fun d => d.parameters.length) = some 1 := by decide +kernel
set_option maxRecDepth 100000 in
set_option maxHeartbeats 4000000 in
theorem c_X6_isThing (l : Launch) (G : va_G) (cI cZ : ClassId)   (x0 : Int32) (res : Int32) (h : m_X6_isThing  x0 = some res) : Ct l yX6_isThing wsX6_isThing rm_X6_isThing G cI cZ [.int x0] [] (some (.int res)) [] := by
  refine Ct.of_z (maxL := 1) (by decide) rfl (Nat.le_of_ble_eq_true rfl) ?_
  intro p e s m below meth c args hx hb hml hown hts A hA hEN hP hD hS Q hRet ls hl
  have hown : s.vm.findClass RX6 = some m.cls := hown
  have hl : lv_has ls 1 [(0, .int x0)] := hl
  unfold m_X6_isThing at h
  refine lv_iload_n hx hb dX6_isThing_0 rfl (lv_at hl 0 rfl) ?_
  refine lv_i2l (v := (Int32.toInt64 x0)) hx hb dX6_isThing_1 rfl ?_
  refine lv_lconst (v := (0 : Int64)) hx hb dX6_isThing_2 (by decide) ?_
  refine lv_ldc2 (v := (4 : Int64)) hx hb hown (hts (.constantLong RX6 151 (4)) (List.mem_of_getElem? (i := 1) rfl)) dX6_isThing_3 ?_
  obtain ⟨o6, ho6, h⟩ := bnd_some h
  refine call_S0 (As := [.long (Int32.toInt64 x0), .long (0 : Int64), .long (4 : Int64)]) (rest := []) ⟨hx, hb, hml, hown, hts⟩ (c_X6_in l G cI cZ  (Int32.toInt64 x0) (0 : Int64) (4 : Int64) o6 ho6) (va_cwS 3 hts gX6_isThing_X6_in rfl rfl rfl hdS_X6_in ⟨Nat.le_of_ble_eq_true rfl, Nat.le_of_ble_eq_true rfl⟩) hEN hA hP hD hS [] rfl (by decide) rfl hl.1 rfl (Nat.le_of_ble_eq_true rfl) dX6_isThing_6 ⟨Nat.le_of_ble_eq_true rfl, Nat.le_of_ble_eq_true rfl⟩ (fun H locs hP hS => ?_)
  obtain ⟨hg9, h⟩ := grd_some h
  have hres := Option.some.inj h
  subst hres
  exact hRet 9 (bz_n hg9) _ _ _ hP hD hS dX6_isThing_9
abbrev rm_X6_place : Room := { frames := 2, cells := 0, slots := 0, locals := 46 }
theorem fi_X6_place_X6 : ∀ w ∈ wsX60, w ∈ wsX6_place := fun _ h => List.mem_cons_of_mem _ (List.mem_append_right _ h)
theorem hdV_X6_place : yX6_place.cls = RX6 ∧ yX6_place.cls ≠ "java/lang/invoke/MethodHandle" ∧ yX6_place.cls ≠ "java/lang/invoke/VarHandle" ∧ (parseMethodDescriptor yX6_place.desc).map (fun d => d.parameters.length) = some 2 := by decide +kernel
set_option maxRecDepth 100000 in
set_option maxHeartbeats 4000000 in
theorem c_X6_place (l : Launch) (G : va_G) (cI cZ : ClassId) (aM : Nat → Nat) (vT : Int64) (vM : Ob) (x1 : Int32) (x2 : Int32) (res : Int32) (h : m_X6_place vM x1 x2 = some res) : Ct l yX6_place wsX6_place rm_X6_place G cI cZ [.ref (aM 0), .int x1, .int x2] [oX6 aM vM vT, ai cI (aM 1) 70 (vM 1)] (some (.int res)) [oX6 aM vM vT, ai cI (aM 1) 70 (vM 1)] := by
  refine Ct.of_i (maxL := 3) (by decide) rfl (Nat.le_of_ble_eq_true rfl) ?_
  intro p e s m below meth c args hx hb hml hown hts A hA hEN hP hD hS Q hRet ls hl
  have hown : s.vm.findClass RX6 = some m.cls := hown
  have hl : lv_has ls 3 [(0, .ref (aM 0)), (1, .int x1), (2, .int x2)] := hl
  unfold m_X6_place at h
  refine lv_aload_n hx hb dX6_place_0 rfl (lv_at hl 0 rfl) ?_
  refine lv_iload_n hx hb dX6_place_1 rfl (lv_at hl 1 rfl) ?_
  obtain ⟨o2, ho2, h⟩ := bnd_some h
  refine call_V0 (As := [.int x1]) (rest := []) ⟨hx, hb, hml, hown, hts⟩ (c_X6_isPlace l G cI cZ aM vT vM x1 o2 ho2) (cwV 1 hts gX6_place_X6_isPlace rfl rfl rfl hdV_X6_isPlace ⟨Nat.le_of_ble_eq_true rfl, Nat.le_of_ble_eq_true rfl⟩) hEN hA hP hD hS [0, 1] rfl (by decide) 0 rfl rfl rfl hl.1 rfl (Nat.le_of_ble_eq_true rfl) dX6_place_2 ⟨Nat.le_of_ble_eq_true rfl, Nat.le_of_ble_eq_true rfl⟩ (fun H locs hP hS => ?_)
  refine lv_if_eq (tgt := 36) hx hb dX6_place_5 (by decide) (fun c5 => ?_) (fun c5 => ?_)
  · have h := (if_pos c5).symm.trans h
    refine lv_iconst (v := (-1 : Int32)) hx hb dX6_place_36 k_iconst_n1 ?_
    have hres := Option.some.inj h
    subst hres
    exact hRet 37 _ _ _ hP hD hS dX6_place_37
  · have h := (if_neg c5).symm.trans h
    refine lv_iload_n hx hb dX6_place_8 rfl (lv_at hl 2 rfl) ?_
    refine lv_i2l (v := (Int32.toInt64 x2)) hx hb dX6_place_9 rfl ?_
    refine lv_lconst (v := (0 : Int64)) hx hb dX6_place_10 (by decide) ?_
    refine lv_ldc2 (v := (2 : Int64)) hx hb hown (hts (.constantLong RX6 156 (2)) (List.mem_of_getElem? (i := 1) rfl)) dX6_place_11 ?_
    obtain ⟨o14, ho14, h⟩ := bnd_some h
    refine call_S0 (As := [.long (Int32.toInt64 x2), .long (0 : Int64), .long (2 : Int64)]) (rest := []) ⟨hx, hb, hml, hown, hts⟩ (c_X6_in l G cI cZ  (Int32.toInt64 x2) (0 : Int64) (2 : Int64) o14 ho14) (va_cwS 3 hts gX6_place_X6_in rfl rfl rfl hdS_X6_in ⟨Nat.le_of_ble_eq_true rfl, Nat.le_of_ble_eq_true rfl⟩) hEN hA hP hD hS [] rfl (by decide) rfl hl.1 rfl (Nat.le_of_ble_eq_true rfl) dX6_place_14 ⟨Nat.le_of_ble_eq_true rfl, Nat.le_of_ble_eq_true rfl⟩ (fun H locs hP hS => ?_)
    refine lv_if_eq (tgt := 36) hx hb dX6_place_17 (by decide) (fun c17 => ?_) (fun c17 => ?_)
    · have h := (if_pos c17).symm.trans h
      refine lv_iconst (v := (-1 : Int32)) hx hb dX6_place_36 k_iconst_n1 ?_
      have hres := Option.some.inj h
      subst hres
      exact hRet 37 _ _ _ hP hD hS dX6_place_37
    · have h := (if_neg c17).symm.trans h
      refine lv_aload_n hx hb dX6_place_20 rfl (lv_at hl 0 rfl) ?_
      refine va_get (D := G) (ci := 6) (v := .ref (aM 1)) (C := RX6) (T := TX6) (N := 29) hx hb hts fi_X6_place_X6 hown hEN.1 hP 0 rfl rfl 0 (by decide) (hts (.fieldLink RX6 7 "HourWellModel" "tale" "[I") (List.mem_of_getElem? (i := 2) rfl)) (fun _ h9 => h9) rfl dX6_place_21 ?_
      refine lv_iconst (v := (4 : Int32)) hx hb dX6_place_24 k_iconst_4 ?_
      refine lv_bipush (v := (7 : Int32)) hx hb dX6_place_25 k_bipush_7 ?_
      refine lv_iload_n hx hb dX6_place_27 rfl (lv_at hl 2 rfl) ?_
      refine lv_imul hx hb dX6_place_28 ?_
      refine lv_iadd hx hb dX6_place_29 ?_
      refine lv_iload_n hx hb dX6_place_30 rfl (lv_at hl 1 rfl) ?_
      refine lv_iadd hx hb dX6_place_31 ?_
      obtain ⟨hg32, h⟩ := grd_some h
      refine va_iald (f := (vM 1)) hx hb hEN.1 hP 1 0 rfl rfl (inb_in hg32) dX6_place_32 ?_
      refine lv_goto (tgt := 37) hx hb dX6_place_33 (by decide) ?_
      have hres := Option.some.inj h
      subst hres
      exact hRet 37 _ _ _ hP hD hS dX6_place_37
abbrev rm_X6_road : Room := { frames := 2, cells := 0, slots := 0, locals := 46 }
theorem fi_X6_road_X6 : ∀ w ∈ wsX60, w ∈ wsX6_road := fun _ h => List.mem_cons_of_mem _ (List.mem_append_right _ h)
theorem hdV_X6_road : yX6_road.cls = RX6 ∧ yX6_road.cls ≠ "java/lang/invoke/MethodHandle" ∧ yX6_road.cls ≠ "java/lang/invoke/VarHandle" ∧ (parseMethodDescriptor yX6_road.desc).map (fun d => d.parameters.length) = some 2 := by decide +kernel
set_option maxRecDepth 100000 in
set_option maxHeartbeats 4000000 in
theorem c_X6_road (l : Launch) (G : va_G) (cI cZ : ClassId) (aM : Nat → Nat) (vT : Int64) (vM : Ob) (x1 : Int32) (x2 : Int32) (res : Int32) (h : m_X6_road vM x1 x2 = some res) : Ct l yX6_road wsX6_road rm_X6_road G cI cZ [.ref (aM 0), .int x1, .int x2] [oX6 aM vM vT, ai cI (aM 1) 70 (vM 1)] (some (.int res)) [oX6 aM vM vT, ai cI (aM 1) 70 (vM 1)] := by
  refine Ct.of_i (maxL := 3) (by decide) rfl (Nat.le_of_ble_eq_true rfl) ?_
  intro p e s m below meth c args hx hb hml hown hts A hA hEN hP hD hS Q hRet ls hl
  have hown : s.vm.findClass RX6 = some m.cls := hown
  have hl : lv_has ls 3 [(0, .ref (aM 0)), (1, .int x1), (2, .int x2)] := hl
  unfold m_X6_road at h
  refine lv_aload_n hx hb dX6_road_0 rfl (lv_at hl 0 rfl) ?_
  refine lv_iload_n hx hb dX6_road_1 rfl (lv_at hl 1 rfl) ?_
  obtain ⟨o2, ho2, h⟩ := bnd_some h
  refine call_V0 (As := [.int x1]) (rest := []) ⟨hx, hb, hml, hown, hts⟩ (c_X6_isRoad l G cI cZ aM vT vM x1 o2 ho2) (cwV 1 hts gX6_road_X6_isRoad rfl rfl rfl hdV_X6_isRoad ⟨Nat.le_of_ble_eq_true rfl, Nat.le_of_ble_eq_true rfl⟩) hEN hA hP hD hS [0, 1] rfl (by decide) 0 rfl rfl rfl hl.1 rfl (Nat.le_of_ble_eq_true rfl) dX6_road_2 ⟨Nat.le_of_ble_eq_true rfl, Nat.le_of_ble_eq_true rfl⟩ (fun H locs hP hS => ?_)
  refine lv_if_eq (tgt := 37) hx hb dX6_road_5 (by decide) (fun c5 => ?_) (fun c5 => ?_)
  · have h := (if_pos c5).symm.trans h
    refine lv_iconst (v := (-1 : Int32)) hx hb dX6_road_37 k_iconst_n1 ?_
    have hres := Option.some.inj h
    subst hres
    exact hRet 38 _ _ _ hP hD hS dX6_road_38
  · have h := (if_neg c5).symm.trans h
    refine lv_iload_n hx hb dX6_road_8 rfl (lv_at hl 2 rfl) ?_
    refine lv_i2l (v := (Int32.toInt64 x2)) hx hb dX6_road_9 rfl ?_
    refine lv_lconst (v := (0 : Int64)) hx hb dX6_road_10 (by decide) ?_
    refine lv_ldc2 (v := (2 : Int64)) hx hb hown (hts (.constantLong RX6 156 (2)) (List.mem_of_getElem? (i := 1) rfl)) dX6_road_11 ?_
    obtain ⟨o14, ho14, h⟩ := bnd_some h
    refine call_S0 (As := [.long (Int32.toInt64 x2), .long (0 : Int64), .long (2 : Int64)]) (rest := []) ⟨hx, hb, hml, hown, hts⟩ (c_X6_in l G cI cZ  (Int32.toInt64 x2) (0 : Int64) (2 : Int64) o14 ho14) (va_cwS 3 hts gX6_road_X6_in rfl rfl rfl hdS_X6_in ⟨Nat.le_of_ble_eq_true rfl, Nat.le_of_ble_eq_true rfl⟩) hEN hA hP hD hS [] rfl (by decide) rfl hl.1 rfl (Nat.le_of_ble_eq_true rfl) dX6_road_14 ⟨Nat.le_of_ble_eq_true rfl, Nat.le_of_ble_eq_true rfl⟩ (fun H locs hP hS => ?_)
    refine lv_if_eq (tgt := 37) hx hb dX6_road_17 (by decide) (fun c17 => ?_) (fun c17 => ?_)
    · have h := (if_pos c17).symm.trans h
      refine lv_iconst (v := (-1 : Int32)) hx hb dX6_road_37 k_iconst_n1 ?_
      have hres := Option.some.inj h
      subst hres
      exact hRet 38 _ _ _ hP hD hS dX6_road_38
    · have h := (if_neg c17).symm.trans h
      refine lv_aload_n hx hb dX6_road_20 rfl (lv_at hl 0 rfl) ?_
      refine va_get (D := G) (ci := 6) (v := .ref (aM 1)) (C := RX6) (T := TX6) (N := 29) hx hb hts fi_X6_road_X6 hown hEN.1 hP 0 rfl rfl 0 (by decide) (hts (.fieldLink RX6 7 "HourWellModel" "tale" "[I") (List.mem_of_getElem? (i := 2) rfl)) (fun _ h9 => h9) rfl dX6_road_21 ?_
      refine lv_bipush (v := (25 : Int32)) hx hb dX6_road_24 k_bipush_25 ?_
      refine lv_bipush (v := (9 : Int32)) hx hb dX6_road_26 k_bipush_9 ?_
      refine lv_iload_n hx hb dX6_road_28 rfl (lv_at hl 2 rfl) ?_
      refine lv_imul hx hb dX6_road_29 ?_
      refine lv_iadd hx hb dX6_road_30 ?_
      refine lv_iload_n hx hb dX6_road_31 rfl (lv_at hl 1 rfl) ?_
      refine lv_iadd hx hb dX6_road_32 ?_
      obtain ⟨hg33, h⟩ := grd_some h
      refine va_iald (f := (vM 1)) hx hb hEN.1 hP 1 0 rfl rfl (inb_in hg33) dX6_road_33 ?_
      refine lv_goto (tgt := 38) hx hb dX6_road_34 (by decide) ?_
      have hres := Option.some.inj h
      subst hres
      exact hRet 38 _ _ _ hP hD hS dX6_road_38
abbrev rm_X6_host : Room := { frames := 2, cells := 0, slots := 0, locals := 46 }
theorem fi_X6_host_X6 : ∀ w ∈ wsX60, w ∈ wsX6_host := fun _ h => List.mem_cons_of_mem _ (List.mem_append_right _ h)
theorem hdV_X6_host : yX6_host.cls = RX6 ∧ yX6_host.cls ≠ "java/lang/invoke/MethodHandle" ∧ yX6_host.cls ≠ "java/lang/invoke/VarHandle" ∧ (parseMethodDescriptor yX6_host.desc).map (fun d => d.parameters.length) = some 2 := by decide +kernel
set_option maxRecDepth 100000 in
set_option maxHeartbeats 4000000 in
theorem c_X6_host (l : Launch) (G : va_G) (cI cZ : ClassId) (aM : Nat → Nat) (vT : Int64) (vM : Ob) (x1 : Int32) (x2 : Int32) (res : Int32) (h : m_X6_host vM x1 x2 = some res) : Ct l yX6_host wsX6_host rm_X6_host G cI cZ [.ref (aM 0), .int x1, .int x2] [oX6 aM vM vT, ai cI (aM 1) 70 (vM 1)] (some (.int res)) [oX6 aM vM vT, ai cI (aM 1) 70 (vM 1)] := by
  refine Ct.of_i (maxL := 3) (by decide) rfl (Nat.le_of_ble_eq_true rfl) ?_
  intro p e s m below meth c args hx hb hml hown hts A hA hEN hP hD hS Q hRet ls hl
  have hown : s.vm.findClass RX6 = some m.cls := hown
  have hl : lv_has ls 3 [(0, .ref (aM 0)), (1, .int x1), (2, .int x2)] := hl
  unfold m_X6_host at h
  refine lv_aload_n hx hb dX6_host_0 rfl (lv_at hl 0 rfl) ?_
  refine lv_iload_n hx hb dX6_host_1 rfl (lv_at hl 1 rfl) ?_
  obtain ⟨o2, ho2, h⟩ := bnd_some h
  refine call_V0 (As := [.int x1]) (rest := []) ⟨hx, hb, hml, hown, hts⟩ (c_X6_isHost l G cI cZ aM vT vM x1 o2 ho2) (cwV 1 hts gX6_host_X6_isHost rfl rfl rfl hdV_X6_isHost ⟨Nat.le_of_ble_eq_true rfl, Nat.le_of_ble_eq_true rfl⟩) hEN hA hP hD hS [0, 1] rfl (by decide) 0 rfl rfl rfl hl.1 rfl (Nat.le_of_ble_eq_true rfl) dX6_host_2 ⟨Nat.le_of_ble_eq_true rfl, Nat.le_of_ble_eq_true rfl⟩ (fun H locs hP hS => ?_)
  refine lv_if_eq (tgt := 37) hx hb dX6_host_5 (by decide) (fun c5 => ?_) (fun c5 => ?_)
  · have h := (if_pos c5).symm.trans h
    refine lv_iconst (v := (-1 : Int32)) hx hb dX6_host_37 k_iconst_n1 ?_
    have hres := Option.some.inj h
    subst hres
    exact hRet 38 _ _ _ hP hD hS dX6_host_38
  · have h := (if_neg c5).symm.trans h
    refine lv_iload_n hx hb dX6_host_8 rfl (lv_at hl 2 rfl) ?_
    refine lv_i2l (v := (Int32.toInt64 x2)) hx hb dX6_host_9 rfl ?_
    refine lv_lconst (v := (0 : Int64)) hx hb dX6_host_10 (by decide) ?_
    refine lv_ldc2 (v := (2 : Int64)) hx hb hown (hts (.constantLong RX6 156 (2)) (List.mem_of_getElem? (i := 1) rfl)) dX6_host_11 ?_
    obtain ⟨o14, ho14, h⟩ := bnd_some h
    refine call_S0 (As := [.long (Int32.toInt64 x2), .long (0 : Int64), .long (2 : Int64)]) (rest := []) ⟨hx, hb, hml, hown, hts⟩ (c_X6_in l G cI cZ  (Int32.toInt64 x2) (0 : Int64) (2 : Int64) o14 ho14) (va_cwS 3 hts gX6_host_X6_in rfl rfl rfl hdS_X6_in ⟨Nat.le_of_ble_eq_true rfl, Nat.le_of_ble_eq_true rfl⟩) hEN hA hP hD hS [] rfl (by decide) rfl hl.1 rfl (Nat.le_of_ble_eq_true rfl) dX6_host_14 ⟨Nat.le_of_ble_eq_true rfl, Nat.le_of_ble_eq_true rfl⟩ (fun H locs hP hS => ?_)
    refine lv_if_eq (tgt := 37) hx hb dX6_host_17 (by decide) (fun c17 => ?_) (fun c17 => ?_)
    · have h := (if_pos c17).symm.trans h
      refine lv_iconst (v := (-1 : Int32)) hx hb dX6_host_37 k_iconst_n1 ?_
      have hres := Option.some.inj h
      subst hres
      exact hRet 38 _ _ _ hP hD hS dX6_host_38
    · have h := (if_neg c17).symm.trans h
      refine lv_aload_n hx hb dX6_host_20 rfl (lv_at hl 0 rfl) ?_
      refine va_get (D := G) (ci := 6) (v := .ref (aM 1)) (C := RX6) (T := TX6) (N := 29) hx hb hts fi_X6_host_X6 hown hEN.1 hP 0 rfl rfl 0 (by decide) (hts (.fieldLink RX6 7 "HourWellModel" "tale" "[I") (List.mem_of_getElem? (i := 2) rfl)) (fun _ h9 => h9) rfl dX6_host_21 ?_
      refine lv_bipush (v := (52 : Int32)) hx hb dX6_host_24 k_bipush_52 ?_
      refine lv_bipush (v := (6 : Int32)) hx hb dX6_host_26 k_bipush_6 ?_
      refine lv_iload_n hx hb dX6_host_28 rfl (lv_at hl 2 rfl) ?_
      refine lv_imul hx hb dX6_host_29 ?_
      refine lv_iadd hx hb dX6_host_30 ?_
      refine lv_iload_n hx hb dX6_host_31 rfl (lv_at hl 1 rfl) ?_
      refine lv_iadd hx hb dX6_host_32 ?_
      obtain ⟨hg33, h⟩ := grd_some h
      refine va_iald (f := (vM 1)) hx hb hEN.1 hP 1 0 rfl rfl (inb_in hg33) dX6_host_33 ?_
      refine lv_goto (tgt := 38) hx hb dX6_host_34 (by decide) ?_
      have hres := Option.some.inj h
      subst hres
      exact hRet 38 _ _ _ hP hD hS dX6_host_38
abbrev rm_X6_otherEnd : Room := { frames := 0, cells := 0, slots := 0, locals := 0 }
theorem fi_X6_otherEnd_X6 : ∀ w ∈ wsX60, w ∈ wsX6_otherEnd := fun _ h => List.mem_cons_of_mem _ (List.mem_append_right _ h)
theorem hdV_X6_otherEnd : yX6_otherEnd.cls = RX6 ∧ yX6_otherEnd.cls ≠ "java/lang/invoke/MethodHandle" ∧ yX6_otherEnd.cls ≠ "java/lang/invoke/VarHandle" ∧ (parseMethodDescriptor yX6_otherEnd.desc).map (fun d => d.parameters.length) = some 2 := by decide +kernel
set_option maxRecDepth 100000 in
set_option maxHeartbeats 4000000 in
theorem c_X6_otherEnd (l : Launch) (G : va_G) (cI cZ : ClassId) (aM : Nat → Nat) (vT : Int64) (vM : Ob) (x1 : Int32) (x2 : Int32) (res : Int32) (h : m_X6_otherEnd vM x1 x2 = some res) : Ct l yX6_otherEnd wsX6_otherEnd rm_X6_otherEnd G cI cZ [.ref (aM 0), .int x1, .int x2] [oX6 aM vM vT, ai cI (aM 1) 70 (vM 1)] (some (.int res)) [oX6 aM vM vT, ai cI (aM 1) 70 (vM 1)] := by
  refine Ct.of_i (maxL := 3) (by decide) rfl (Nat.le_of_ble_eq_true rfl) ?_
  intro p e s m below meth c args hx hb hml hown hts A hA hEN hP hD hS Q hRet ls hl
  have hown : s.vm.findClass RX6 = some m.cls := hown
  have hl : lv_has ls 3 [(0, .ref (aM 0)), (1, .int x1), (2, .int x2)] := hl
  unfold m_X6_otherEnd at h
  refine lv_aload_n hx hb dX6_otherEnd_0 rfl (lv_at hl 0 rfl) ?_
  refine va_get (D := G) (ci := 6) (v := .ref (aM 1)) (C := RX6) (T := TX6) (N := 29) hx hb hts fi_X6_otherEnd_X6 hown hEN.1 hP 0 rfl rfl 0 (by decide) (hts (.fieldLink RX6 7 "HourWellModel" "tale" "[I") (List.mem_of_getElem? (i := 1) rfl)) (fun _ h9 => h9) rfl dX6_otherEnd_1 ?_
  refine lv_bipush (v := (25 : Int32)) hx hb dX6_otherEnd_4 k_bipush_25 ?_
  refine lv_iload_n hx hb dX6_otherEnd_6 rfl (lv_at hl 1 rfl) ?_
  refine lv_iadd hx hb dX6_otherEnd_7 ?_
  obtain ⟨hg8, h⟩ := grd_some h
  refine va_iald (f := (vM 1)) hx hb hEN.1 hP 1 0 rfl rfl (inb_in hg8) dX6_otherEnd_8 ?_
  refine lv_iload_n hx hb dX6_otherEnd_9 rfl (lv_at hl 2 rfl) ?_
  refine lv_icmp_ne (tgt := 25) hx hb dX6_otherEnd_10 (by decide) (fun c10 => ?_) (fun c10 => ?_)
  · have h := (if_neg c10).symm.trans h
    refine lv_aload_n hx hb dX6_otherEnd_25 rfl (lv_at hl 0 rfl) ?_
    refine va_get (D := G) (ci := 6) (v := .ref (aM 1)) (C := RX6) (T := TX6) (N := 29) hx hb hts fi_X6_otherEnd_X6 hown hEN.1 hP 0 rfl rfl 0 (by decide) (hts (.fieldLink RX6 7 "HourWellModel" "tale" "[I") (List.mem_of_getElem? (i := 1) rfl)) (fun _ h9 => h9) rfl dX6_otherEnd_26 ?_
    refine lv_bipush (v := (34 : Int32)) hx hb dX6_otherEnd_29 k_bipush_34 ?_
    refine lv_iload_n hx hb dX6_otherEnd_31 rfl (lv_at hl 1 rfl) ?_
    refine lv_iadd hx hb dX6_otherEnd_32 ?_
    obtain ⟨hg33, h⟩ := grd_some h
    refine va_iald (f := (vM 1)) hx hb hEN.1 hP 1 0 rfl rfl (inb_in hg33) dX6_otherEnd_33 ?_
    refine lv_iload_n hx hb dX6_otherEnd_34 rfl (lv_at hl 2 rfl) ?_
    refine lv_icmp_ne (tgt := 50) hx hb dX6_otherEnd_35 (by decide) (fun c35 => ?_) (fun c35 => ?_)
    · have h := (if_neg c35).symm.trans h
      refine lv_iconst (v := (-1 : Int32)) hx hb dX6_otherEnd_50 k_iconst_n1 ?_
      have hres := Option.some.inj h
      subst hres
      exact hRet 51 _ _ _ hP hD hS dX6_otherEnd_51
    · have h := (if_pos c35).symm.trans h
      refine lv_aload_n hx hb dX6_otherEnd_38 rfl (lv_at hl 0 rfl) ?_
      refine va_get (D := G) (ci := 6) (v := .ref (aM 1)) (C := RX6) (T := TX6) (N := 29) hx hb hts fi_X6_otherEnd_X6 hown hEN.1 hP 0 rfl rfl 0 (by decide) (hts (.fieldLink RX6 7 "HourWellModel" "tale" "[I") (List.mem_of_getElem? (i := 1) rfl)) (fun _ h9 => h9) rfl dX6_otherEnd_39 ?_
      refine lv_bipush (v := (25 : Int32)) hx hb dX6_otherEnd_42 k_bipush_25 ?_
      refine lv_iload_n hx hb dX6_otherEnd_44 rfl (lv_at hl 1 rfl) ?_
      refine lv_iadd hx hb dX6_otherEnd_45 ?_
      obtain ⟨hg46, h⟩ := grd_some h
      refine va_iald (f := (vM 1)) hx hb hEN.1 hP 1 0 rfl rfl (inb_in hg46) dX6_otherEnd_46 ?_
      refine lv_goto (tgt := 51) hx hb dX6_otherEnd_47 (by decide) ?_
      have hres := Option.some.inj h
      subst hres
      exact hRet 51 _ _ _ hP hD hS dX6_otherEnd_51
  · have h := (if_pos c10).symm.trans h
    refine lv_aload_n hx hb dX6_otherEnd_13 rfl (lv_at hl 0 rfl) ?_
    refine va_get (D := G) (ci := 6) (v := .ref (aM 1)) (C := RX6) (T := TX6) (N := 29) hx hb hts fi_X6_otherEnd_X6 hown hEN.1 hP 0 rfl rfl 0 (by decide) (hts (.fieldLink RX6 7 "HourWellModel" "tale" "[I") (List.mem_of_getElem? (i := 1) rfl)) (fun _ h9 => h9) rfl dX6_otherEnd_14 ?_
    refine lv_bipush (v := (34 : Int32)) hx hb dX6_otherEnd_17 k_bipush_34 ?_
    refine lv_iload_n hx hb dX6_otherEnd_19 rfl (lv_at hl 1 rfl) ?_
    refine lv_iadd hx hb dX6_otherEnd_20 ?_
    obtain ⟨hg21, h⟩ := grd_some h
    refine va_iald (f := (vM 1)) hx hb hEN.1 hP 1 0 rfl rfl (inb_in hg21) dX6_otherEnd_21 ?_
    refine lv_goto (tgt := 51) hx hb dX6_otherEnd_22 (by decide) ?_
    have hres := Option.some.inj h
    subst hres
    exact hRet 51 _ _ _ hP hD hS dX6_otherEnd_51
abbrev rm_X6_isOpen : Room := { frames := 0, cells := 0, slots := 0, locals := 0 }
theorem fi_X6_isOpen_X6 : ∀ w ∈ wsX60, w ∈ wsX6_isOpen := fun _ h => List.mem_cons_of_mem _ (List.mem_append_right _ h)
theorem hdV_X6_isOpen : yX6_isOpen.cls = RX6 ∧ yX6_isOpen.cls ≠ "java/lang/invoke/MethodHandle" ∧ yX6_isOpen.cls ≠ "java/lang/invoke/VarHandle" ∧ (parseMethodDescriptor yX6_isOpen.desc).map (fun d => d.parameters.length) = some 2 := by decide +kernel
set_option maxRecDepth 100000 in
set_option maxHeartbeats 4000000 in
theorem c_X6_isOpen (l : Launch) (G : va_G) (cI cZ : ClassId) (aM : Nat → Nat) (vT : Int64) (vM : Ob) (x1 : Int32) (x2 : Int32) (res : Int32) (h : m_X6_isOpen vM x1 x2 = some res) : Ct l yX6_isOpen wsX6_isOpen rm_X6_isOpen G cI cZ [.ref (aM 0), .int x1, .int x2] [oX6 aM vM vT, ai cI (aM 1) 70 (vM 1)] (some (.int res)) [oX6 aM vM vT, ai cI (aM 1) 70 (vM 1)] := by
  refine Ct.of_z (maxL := 3) (by decide) rfl (Nat.le_of_ble_eq_true rfl) ?_
  intro p e s m below meth c args hx hb hml hown hts A hA hEN hP hD hS Q hRet ls hl
  have hown : s.vm.findClass RX6 = some m.cls := hown
  have hl : lv_has ls 3 [(0, .ref (aM 0)), (1, .int x1), (2, .int x2)] := hl
  have j44 : m_X6_isOpen_j44 vM  = some res → ∀ (H : Heap) (locs : List Loc) (ls : Array Slot), va_P G vwCl [oX6 aM vM vT, ai cI (aM 1) 70 (vM 1)] H → va_D A [oX6 aM vM vT, ai cI (aM 1) 70 (vM 1)] → va_S A s.heap H locs → lv_has ls 3 [] → W p l e rm_X6_isOpen s m args below meth c H locs 0 0 Q (F0 m 44 ls []) := by
    intro  h H locs ls hP hD hS hl
    unfold m_X6_isOpen_j44 at h
    refine lv_iconst (v := (1 : Int32)) hx hb dX6_isOpen_44 k_iconst_1 ?_
    refine lv_goto (tgt := 49) hx hb dX6_isOpen_45 (by decide) ?_
    have hres := Option.some.inj h
    subst hres
    exact hRet 49 nz1 _ _ _ hP hD hS dX6_isOpen_49
  unfold m_X6_isOpen at h
  refine lv_aload_n hx hb dX6_isOpen_0 rfl (lv_at hl 0 rfl) ?_
  refine va_get (D := G) (ci := 6) (v := .ref (aM 1)) (C := RX6) (T := TX6) (N := 29) hx hb hts fi_X6_isOpen_X6 hown hEN.1 hP 0 rfl rfl 0 (by decide) (hts (.fieldLink RX6 7 "HourWellModel" "tale" "[I") (List.mem_of_getElem? (i := 1) rfl)) (fun _ h9 => h9) rfl dX6_isOpen_1 ?_
  refine lv_bipush (v := (11 : Int32)) hx hb dX6_isOpen_4 k_bipush_11 ?_
  refine lv_iload_n hx hb dX6_isOpen_6 rfl (lv_at hl 1 rfl) ?_
  refine lv_iadd hx hb dX6_isOpen_7 ?_
  obtain ⟨hg8, h⟩ := grd_some h
  refine va_iald (f := (vM 1)) hx hb hEN.1 hP 1 0 rfl rfl (inb_in hg8) dX6_isOpen_8 ?_
  refine lv_bipush (v := (-9 : Int32)) hx hb dX6_isOpen_9 k_bipush_n9 ?_
  refine lv_icmp_eq (tgt := 44) hx hb dX6_isOpen_11 (by decide) (fun c11 => ?_) (fun c11 => ?_)
  · have h := (if_pos c11).symm.trans h
    exact j44  h _ _ _ hP hD hS (lv_sub hl [] rfl)
  · have h := (if_neg c11).symm.trans h
    refine lv_iload_n hx hb dX6_isOpen_14 rfl (lv_at hl 2 rfl) ?_
    refine lv_aload_n hx hb dX6_isOpen_15 rfl (lv_at hl 0 rfl) ?_
    refine va_get (D := G) (ci := 6) (v := .ref (aM 1)) (C := RX6) (T := TX6) (N := 29) hx hb hts fi_X6_isOpen_X6 hown hEN.1 hP 0 rfl rfl 0 (by decide) (hts (.fieldLink RX6 7 "HourWellModel" "tale" "[I") (List.mem_of_getElem? (i := 1) rfl)) (fun _ h9 => h9) rfl dX6_isOpen_16 ?_
    refine lv_bipush (v := (11 : Int32)) hx hb dX6_isOpen_19 k_bipush_11 ?_
    refine lv_iload_n hx hb dX6_isOpen_21 rfl (lv_at hl 1 rfl) ?_
    refine lv_iadd hx hb dX6_isOpen_22 ?_
    obtain ⟨hg23, h⟩ := grd_some h
    refine va_iald (f := (vM 1)) hx hb hEN.1 hP 1 0 rfl rfl (inb_in hg23) dX6_isOpen_23 ?_
    refine lv_isub hx hb dX6_isOpen_24 ?_
    refine lv_sipush (v := (240 : Int32)) hx hb dX6_isOpen_25 k_sipush_240 ?_
    refine lv_iadd hx hb dX6_isOpen_28 ?_
    refine lv_bipush (v := (24 : Int32)) hx hb dX6_isOpen_29 k_bipush_24 ?_
    refine lv_rem hx hb dX6_isOpen_31 (by decide) ?_
    refine lv_aload_n hx hb dX6_isOpen_32 rfl (lv_at hl 0 rfl) ?_
    refine va_get (D := G) (ci := 6) (v := .ref (aM 1)) (C := RX6) (T := TX6) (N := 29) hx hb hts fi_X6_isOpen_X6 hown hEN.1 hP 0 rfl rfl 0 (by decide) (hts (.fieldLink RX6 7 "HourWellModel" "tale" "[I") (List.mem_of_getElem? (i := 1) rfl)) (fun _ h9 => h9) rfl dX6_isOpen_33 ?_
    refine lv_bipush (v := (18 : Int32)) hx hb dX6_isOpen_36 k_bipush_18 ?_
    refine lv_iload_n hx hb dX6_isOpen_38 rfl (lv_at hl 1 rfl) ?_
    refine lv_iadd hx hb dX6_isOpen_39 ?_
    obtain ⟨hg40, h⟩ := grd_some h
    refine va_iald (f := (vM 1)) hx hb hEN.1 hP 1 0 rfl rfl (inb_in hg40) dX6_isOpen_40 ?_
    refine lv_icmp_ge (tgt := 48) hx hb dX6_isOpen_41 (by decide) (fun c41 => ?_) (fun c41 => ?_)
    · have h := (if_pos c41).symm.trans h
      refine lv_iconst (v := (0 : Int32)) hx hb dX6_isOpen_48 k_iconst_0 ?_
      have hres := Option.some.inj h
      subst hres
      exact hRet 49 nz0 _ _ _ hP hD hS dX6_isOpen_49
    · have h := (if_neg c41).symm.trans h
      exact j44  h _ _ _ hP hD hS (lv_sub hl [] rfl)
abbrev rm_X6_enters : Room := { frames := 1, cells := 0, slots := 0, locals := 22 }
theorem fi_X6_enters_X6 : ∀ w ∈ wsX60, w ∈ wsX6_enters := fun _ h => List.mem_cons_of_mem _ (List.mem_append_right _ h)
theorem hdV_X6_enters : yX6_enters.cls = RX6 ∧ yX6_enters.cls ≠ "java/lang/invoke/MethodHandle" ∧ yX6_enters.cls ≠ "java/lang/invoke/VarHandle" ∧ (parseMethodDescriptor yX6_enters.desc).map (fun d => d.parameters.length) = some 4 := by decide +kernel
set_option maxRecDepth 100000 in
set_option maxHeartbeats 4000000 in
theorem c_X6_enters (l : Launch) (G : va_G) (cI cZ : ClassId) (aM : Nat → Nat) (vT : Int64) (vM : Ob) (x1 : Int32) (x2 : Int32) (x3 : Int32) (x4 : Int32) (res : Int32) (h : m_X6_enters vM x1 x2 x3 x4 = some res) : Ct l yX6_enters wsX6_enters rm_X6_enters G cI cZ [.ref (aM 0), .int x1, .int x2, .int x3, .int x4] [oX6 aM vM vT, ai cI (aM 1) 70 (vM 1)] (some (.int res)) [oX6 aM vM vT, ai cI (aM 1) 70 (vM 1)] := by
  refine Ct.of_i (maxL := 7) (by decide) rfl (Nat.le_of_ble_eq_true rfl) ?_
  intro p e s m below meth c args hx hb hml hown hts A hA hEN hP hD hS Q hRet ls hl
  have hown : s.vm.findClass RX6 = some m.cls := hown
  have hl : lv_has ls 7 [(0, .ref (aM 0)), (1, .int x1), (2, .int x2), (3, .int x3), (4, .int x4)] := hl
  unfold m_X6_enters at h
  refine lv_aload_n hx hb dX6_enters_0 rfl (lv_at hl 0 rfl) ?_
  refine lv_iload_n hx hb dX6_enters_1 rfl (lv_at hl 1 rfl) ?_
  refine lv_iload_n hx hb dX6_enters_2 rfl (lv_at hl 2 rfl) ?_
  obtain ⟨o3, ho3, h⟩ := bnd_some h
  refine call_V0 (As := [.int x1, .int x2]) (rest := []) ⟨hx, hb, hml, hown, hts⟩ (c_X6_otherEnd l G cI cZ aM vT vM x1 x2 o3 ho3) (cwV 2 hts gX6_enters_X6_otherEnd rfl rfl rfl hdV_X6_otherEnd ⟨Nat.le_of_ble_eq_true rfl, Nat.le_of_ble_eq_true rfl⟩) hEN hA hP hD hS [0, 1] rfl (by decide) 0 rfl rfl rfl hl.1 rfl (Nat.le_of_ble_eq_true rfl) dX6_enters_3 ⟨Nat.le_of_ble_eq_true rfl, Nat.le_of_ble_eq_true rfl⟩ (fun H locs hP hS => ?_)
  refine lv_istore (lv' := [(5, .int o3), (0, .ref (aM 0)), (1, .int x1), (2, .int x2), (3, .int x3), (4, .int x4)]) hx hb dX6_enters_6 hl (by decide) rfl (fun ls hl => ?_)
  refine lv_iload hx hb dX6_enters_8 (lv_at hl 0 rfl) ?_
  refine lv_if_lt (tgt := 26) hx hb dX6_enters_10 (by decide) (fun c10 => ?_) (fun c10 => ?_)
  · have h := (if_pos c10).symm.trans h
    refine lv_iconst (v := (-1 : Int32)) hx hb dX6_enters_26 k_iconst_n1 ?_
    have hres := Option.some.inj h
    subst hres
    exact hRet 27 _ _ _ hP hD hS dX6_enters_27
  · have h := (if_neg c10).symm.trans h
    refine lv_aload_n hx hb dX6_enters_13 rfl (lv_at hl 1 rfl) ?_
    refine lv_iload hx hb dX6_enters_14 (lv_at hl 0 rfl) ?_
    refine lv_iload_n hx hb dX6_enters_16 rfl (lv_at hl 4 rfl) ?_
    refine lv_bipush (v := (24 : Int32)) hx hb dX6_enters_17 k_bipush_24 ?_
    refine lv_rem hx hb dX6_enters_19 (by decide) ?_
    obtain ⟨o20, ho20, h⟩ := bnd_some h
    refine call_V0 (As := [.int o3, .int (rem x3 (24 : Int32))]) (rest := []) ⟨hx, hb, hml, hown, hts⟩ (c_X6_isOpen l G cI cZ aM vT vM o3 (rem x3 (24 : Int32)) o20 ho20) (cwV 2 hts gX6_enters_X6_isOpen rfl rfl rfl hdV_X6_isOpen ⟨Nat.le_of_ble_eq_true rfl, Nat.le_of_ble_eq_true rfl⟩) hEN hA hP hD hS [0, 1] rfl (by decide) 0 rfl rfl rfl hl.1 rfl (Nat.le_of_ble_eq_true rfl) dX6_enters_20 ⟨Nat.le_of_ble_eq_true rfl, Nat.le_of_ble_eq_true rfl⟩ (fun H locs hP hS => ?_)
    refine lv_if_ne (tgt := 28) hx hb dX6_enters_23 (by decide) (fun c23 => ?_) (fun c23 => ?_)
    · have h := (if_neg c23).symm.trans h
      refine lv_aload_n hx hb dX6_enters_28 rfl (lv_at hl 1 rfl) ?_
      refine va_get (D := G) (ci := 6) (v := .ref (aM 1)) (C := RX6) (T := TX6) (N := 29) hx hb hts fi_X6_enters_X6 hown hEN.1 hP 0 rfl rfl 0 (by decide) (hts (.fieldLink RX6 7 "HourWellModel" "tale" "[I") (List.mem_of_getElem? (i := 1) rfl)) (fun _ h9 => h9) rfl dX6_enters_29 ?_
      refine lv_iconst (v := (4 : Int32)) hx hb dX6_enters_32 k_iconst_4 ?_
      refine lv_iload hx hb dX6_enters_33 (lv_at hl 0 rfl) ?_
      refine lv_iadd hx hb dX6_enters_35 ?_
      obtain ⟨hg36, h⟩ := grd_some h
      refine va_iald (f := (vM 1)) hx hb hEN.1 hP 1 0 rfl rfl (inb_in hg36) dX6_enters_36 ?_
      refine lv_istore (lv' := [(6, .int ((vM 1) (Int32.toNatClampNeg ((4 : Int32) + o3)))), (5, .int o3), (0, .ref (aM 0)), (1, .int x1), (2, .int x2), (3, .int x3), (4, .int x4)]) hx hb dX6_enters_37 hl (by decide) rfl (fun ls hl => ?_)
      refine lv_iload hx hb dX6_enters_39 (lv_at hl 0 rfl) ?_
      refine lv_bipush (v := (9 : Int32)) hx hb dX6_enters_41 k_bipush_9 ?_
      refine lv_icmp_ne (tgt := 49) hx hb dX6_enters_43 (by decide) (fun c43 => ?_) (fun c43 => ?_)
      · have h := (if_neg c43).symm.trans h
        refine lv_iload hx hb dX6_enters_49 (lv_at hl 6 rfl) ?_
        refine lv_iload hx hb dX6_enters_51 (lv_at hl 0 rfl) ?_
        obtain ⟨o53, ho53, h⟩ := bnd_some h
        refine call_S0 (As := [.int x4, .int ((vM 1) (Int32.toNatClampNeg ((4 : Int32) + o3)))]) (rest := []) ⟨hx, hb, hml, hown, hts⟩ (c_X6_holds l G cI cZ  x4 ((vM 1) (Int32.toNatClampNeg ((4 : Int32) + o3))) o53 ho53) (va_cwS 2 hts gX6_enters_X6_holds rfl rfl rfl hdS_X6_holds ⟨Nat.le_of_ble_eq_true rfl, Nat.le_of_ble_eq_true rfl⟩) hEN hA hP hD hS [] rfl (by decide) rfl hl.1 rfl (Nat.le_of_ble_eq_true rfl) dX6_enters_53 ⟨Nat.le_of_ble_eq_true rfl, Nat.le_of_ble_eq_true rfl⟩ (fun H locs hP hS => ?_)
        refine lv_if_eq (tgt := 71) hx hb dX6_enters_56 (by decide) (fun c56 => ?_) (fun c56 => ?_)
        · have h := (if_pos c56).symm.trans h
          refine lv_iconst (v := (-1 : Int32)) hx hb dX6_enters_71 k_iconst_n1 ?_
          have hres := Option.some.inj h
          subst hres
          exact hRet 72 _ _ _ hP hD hS dX6_enters_72
        · have h := (if_neg c56).symm.trans h
          refine lv_iload hx hb dX6_enters_59 (lv_at hl 6 rfl) ?_
          refine lv_iconst (v := (1 : Int32)) hx hb dX6_enters_61 k_iconst_1 ?_
          refine lv_iload hx hb dX6_enters_62 (lv_at hl 0 rfl) ?_
          refine lv_ishl hx hb dX6_enters_64 ?_
          refine lv_iconst (v := (-1 : Int32)) hx hb dX6_enters_65 k_iconst_n1 ?_
          refine lv_ixor hx hb dX6_enters_66 ?_
          refine lv_iand hx hb dX6_enters_67 ?_
          refine lv_goto (tgt := 72) hx hb dX6_enters_68 (by decide) ?_
          have hres := Option.some.inj h
          subst hres
          exact hRet 72 _ _ _ hP hD hS dX6_enters_72
      · have h := (if_pos c43).symm.trans h
        refine lv_iload hx hb dX6_enters_46 (lv_at hl 6 rfl) ?_
        have hres := Option.some.inj h
        subst hres
        exact hRet 48 _ _ _ hP hD hS dX6_enters_48
    · have h := (if_pos c23).symm.trans h
      refine lv_iconst (v := (-1 : Int32)) hx hb dX6_enters_26 k_iconst_n1 ?_
      have hres := Option.some.inj h
      subst hres
      exact hRet 27 _ _ _ hP hD hS dX6_enters_27
abbrev rm_X6_given : Room := { frames := 1, cells := 0, slots := 0, locals := 21 }
theorem fi_X6_given_X6 : ∀ w ∈ wsX60, w ∈ wsX6_given := fun _ h => List.mem_cons_of_mem _ (List.mem_append_right _ h)
theorem hdV_X6_given : yX6_given.cls = RX6 ∧ yX6_given.cls ≠ "java/lang/invoke/MethodHandle" ∧ yX6_given.cls ≠ "java/lang/invoke/VarHandle" ∧ (parseMethodDescriptor yX6_given.desc).map (fun d => d.parameters.length) = some 3 := by decide +kernel
set_option maxRecDepth 100000 in
set_option maxHeartbeats 4000000 in
theorem c_X6_given (l : Launch) (G : va_G) (cI cZ : ClassId) (aM : Nat → Nat) (vT : Int64) (vM : Ob) (x1 : Int32) (x2 : Int32) (x3 : Int32) (res : Int32) (h : m_X6_given vM x1 x2 x3 = some res) : Ct l yX6_given wsX6_given rm_X6_given G cI cZ [.ref (aM 0), .int x1, .int x2, .int x3] [oX6 aM vM vT, ai cI (aM 1) 70 (vM 1)] (some (.int res)) [oX6 aM vM vT, ai cI (aM 1) 70 (vM 1)] := by
  refine Ct.of_i (maxL := 6) (by decide) rfl (Nat.le_of_ble_eq_true rfl) ?_
  intro p e s m below meth c args hx hb hml hown hts A hA hEN hP hD hS Q hRet ls hl
  have hown : s.vm.findClass RX6 = some m.cls := hown
  have hl : lv_has ls 6 [(0, .ref (aM 0)), (1, .int x1), (2, .int x2), (3, .int x3)] := hl
  have j61 : ∀ (x1 : Int32) (x3 : Int32) (s0 : Int32), m_X6_given_j61 vM x1 x3 s0 = some res → ∀ (H : Heap) (locs : List Loc) (ls : Array Slot), va_P G vwCl [oX6 aM vM vT, ai cI (aM 1) 70 (vM 1)] H → va_D A [oX6 aM vM vT, ai cI (aM 1) 70 (vM 1)] → va_S A s.heap H locs → lv_has ls 6 [(0, .ref (aM 0)), (1, .int x1), (3, .int x3)] → W p l e rm_X6_given s m args below meth c H locs 0 0 Q (F0 m 61 ls [.int s0]) := by
    intro x1 x3 s0 h H locs ls hP hD hS hl
    unfold m_X6_given_j61 at h
    refine lv_istore (lv' := [(5, .int s0), (0, .ref (aM 0)), (1, .int x1), (3, .int x3)]) hx hb dX6_given_61 hl (by decide) rfl (fun ls hl => ?_)
    refine lv_iload hx hb dX6_given_63 (lv_at hl 0 rfl) ?_
    refine lv_if_eq (tgt := 84) hx hb dX6_given_65 (by decide) (fun c65 => ?_) (fun c65 => ?_)
    · have h := (if_pos c65).symm.trans h
      refine lv_iconst (v := (-1 : Int32)) hx hb dX6_given_84 k_iconst_n1 ?_
      have hres := Option.some.inj h
      subst hres
      exact hRet 85 _ _ _ hP hD hS dX6_given_85
    · have h := (if_neg c65).symm.trans h
      refine lv_iload_n hx hb dX6_given_68 rfl (lv_at hl 3 rfl) ?_
      refine lv_iconst (v := (1 : Int32)) hx hb dX6_given_69 k_iconst_1 ?_
      refine lv_aload_n hx hb dX6_given_70 rfl (lv_at hl 1 rfl) ?_
      refine va_get (D := G) (ci := 6) (v := .ref (aM 1)) (C := RX6) (T := TX6) (N := 29) hx hb hts fi_X6_given_X6 hown hEN.1 hP 0 rfl rfl 0 (by decide) (hts (.fieldLink RX6 7 "HourWellModel" "tale" "[I") (List.mem_of_getElem? (i := 1) rfl)) (fun _ h9 => h9) rfl dX6_given_71 ?_
      refine lv_bipush (v := (58 : Int32)) hx hb dX6_given_74 k_bipush_58 ?_
      refine lv_iload_n hx hb dX6_given_76 rfl (lv_at hl 2 rfl) ?_
      refine lv_iadd hx hb dX6_given_77 ?_
      obtain ⟨hg78, h⟩ := grd_some h
      refine va_iald (f := (vM 1)) hx hb hEN.1 hP 1 0 rfl rfl (inb_in hg78) dX6_given_78 ?_
      refine lv_ishl hx hb dX6_given_79 ?_
      refine lv_ior hx hb dX6_given_80 ?_
      refine lv_goto (tgt := 85) hx hb dX6_given_81 (by decide) ?_
      have hres := Option.some.inj h
      subst hres
      exact hRet 85 _ _ _ hP hD hS dX6_given_85
  have j60 : ∀ (x1 : Int32) (x3 : Int32), m_X6_given_j60 vM x1 x3 = some res → ∀ (H : Heap) (locs : List Loc) (ls : Array Slot), va_P G vwCl [oX6 aM vM vT, ai cI (aM 1) 70 (vM 1)] H → va_D A [oX6 aM vM vT, ai cI (aM 1) 70 (vM 1)] → va_S A s.heap H locs → lv_has ls 6 [(0, .ref (aM 0)), (1, .int x1), (3, .int x3)] → W p l e rm_X6_given s m args below meth c H locs 0 0 Q (F0 m 60 ls []) := by
    intro x1 x3 h H locs ls hP hD hS hl
    unfold m_X6_given_j60 at h
    refine lv_iconst (v := (0 : Int32)) hx hb dX6_given_60 k_iconst_0 ?_
    exact j61 x1 x3 (0 : Int32) h _ _ _ hP hD hS (lv_sub hl [0, 1, 2] rfl)
  have j40 : ∀ (x1 : Int32) (x3 : Int32), m_X6_given_j40 vM x1 x3 = some res → ∀ (H : Heap) (locs : List Loc) (ls : Array Slot), va_P G vwCl [oX6 aM vM vT, ai cI (aM 1) 70 (vM 1)] H → va_D A [oX6 aM vM vT, ai cI (aM 1) 70 (vM 1)] → va_S A s.heap H locs → lv_has ls 6 [(0, .ref (aM 0)), (1, .int x1), (3, .int x3)] → W p l e rm_X6_given s m args below meth c H locs 0 0 Q (F0 m 40 ls []) := by
    intro x1 x3 h H locs ls hP hD hS hl
    unfold m_X6_given_j40 at h
    refine lv_iload_n hx hb dX6_given_40 rfl (lv_at hl 2 rfl) ?_
    refine lv_aload_n hx hb dX6_given_41 rfl (lv_at hl 0 rfl) ?_
    refine va_get (D := G) (ci := 6) (v := .ref (aM 1)) (C := RX6) (T := TX6) (N := 29) hx hb hts fi_X6_given_X6 hown hEN.1 hP 0 rfl rfl 0 (by decide) (hts (.fieldLink RX6 7 "HourWellModel" "tale" "[I") (List.mem_of_getElem? (i := 1) rfl)) (fun _ h9 => h9) rfl dX6_given_42 ?_
    refine lv_bipush (v := (58 : Int32)) hx hb dX6_given_45 k_bipush_58 ?_
    refine lv_iload_n hx hb dX6_given_47 rfl (lv_at hl 1 rfl) ?_
    refine lv_iadd hx hb dX6_given_48 ?_
    obtain ⟨hg49, h⟩ := grd_some h
    refine va_iald (f := (vM 1)) hx hb hEN.1 hP 1 0 rfl rfl (inb_in hg49) dX6_given_49 ?_
    obtain ⟨o50, ho50, h⟩ := bnd_some h
    refine call_S0 (As := [.int x3, .int ((vM 1) (Int32.toNatClampNeg ((58 : Int32) + x1)))]) (rest := []) ⟨hx, hb, hml, hown, hts⟩ (c_X6_holds l G cI cZ  x3 ((vM 1) (Int32.toNatClampNeg ((58 : Int32) + x1))) o50 ho50) (va_cwS 2 hts gX6_given_X6_holds rfl rfl rfl hdS_X6_holds ⟨Nat.le_of_ble_eq_true rfl, Nat.le_of_ble_eq_true rfl⟩) hEN hA hP hD hS [] rfl (by decide) rfl hl.1 rfl (Nat.le_of_ble_eq_true rfl) dX6_given_50 ⟨Nat.le_of_ble_eq_true rfl, Nat.le_of_ble_eq_true rfl⟩ (fun H locs hP hS => ?_)
    refine lv_if_ne (tgt := 60) hx hb dX6_given_53 (by decide) (fun c53 => ?_) (fun c53 => ?_)
    · have h := (if_neg c53).symm.trans h
      exact j60 x1 x3 h _ _ _ hP hD hS (lv_sub hl [0, 1, 2] rfl)
    · have h := (if_pos c53).symm.trans h
      refine lv_iconst (v := (1 : Int32)) hx hb dX6_given_56 k_iconst_1 ?_
      refine lv_goto (tgt := 61) hx hb dX6_given_57 (by decide) ?_
      exact j61 x1 x3 (1 : Int32) h _ _ _ hP hD hS (lv_sub hl [0, 1, 2] rfl)
  unfold m_X6_given at h
  refine lv_aload_n hx hb dX6_given_0 rfl (lv_at hl 0 rfl) ?_
  refine va_get (D := G) (ci := 6) (v := .ref (aM 1)) (C := RX6) (T := TX6) (N := 29) hx hb hts fi_X6_given_X6 hown hEN.1 hP 0 rfl rfl 0 (by decide) (hts (.fieldLink RX6 7 "HourWellModel" "tale" "[I") (List.mem_of_getElem? (i := 1) rfl)) (fun _ h9 => h9) rfl dX6_given_1 ?_
  refine lv_bipush (v := (64 : Int32)) hx hb dX6_given_4 k_bipush_64 ?_
  refine lv_iload_n hx hb dX6_given_6 rfl (lv_at hl 1 rfl) ?_
  refine lv_iadd hx hb dX6_given_7 ?_
  obtain ⟨hg8, h⟩ := grd_some h
  refine va_iald (f := (vM 1)) hx hb hEN.1 hP 1 0 rfl rfl (inb_in hg8) dX6_given_8 ?_
  refine lv_istore (lv' := [(4, .int ((vM 1) (Int32.toNatClampNeg ((64 : Int32) + x1)))), (0, .ref (aM 0)), (1, .int x1), (2, .int x2), (3, .int x3)]) hx hb dX6_given_9 hl (by decide) rfl (fun ls hl => ?_)
  refine lv_aload_n hx hb dX6_given_11 rfl (lv_at hl 1 rfl) ?_
  refine va_get (D := G) (ci := 6) (v := .ref (aM 1)) (C := RX6) (T := TX6) (N := 29) hx hb hts fi_X6_given_X6 hown hEN.1 hP 0 rfl rfl 0 (by decide) (hts (.fieldLink RX6 7 "HourWellModel" "tale" "[I") (List.mem_of_getElem? (i := 1) rfl)) (fun _ h9 => h9) rfl dX6_given_12 ?_
  refine lv_bipush (v := (52 : Int32)) hx hb dX6_given_15 k_bipush_52 ?_
  refine lv_iload_n hx hb dX6_given_17 rfl (lv_at hl 2 rfl) ?_
  refine lv_iadd hx hb dX6_given_18 ?_
  obtain ⟨hg19, h⟩ := grd_some h
  refine va_iald (f := (vM 1)) hx hb hEN.1 hP 1 0 rfl rfl (inb_in hg19) dX6_given_19 ?_
  refine lv_iload_n hx hb dX6_given_20 rfl (lv_at hl 3 rfl) ?_
  refine lv_icmp_ne (tgt := 60) hx hb dX6_given_21 (by decide) (fun c21 => ?_) (fun c21 => ?_)
  · have h := (if_neg c21).symm.trans h
    exact j60 x1 x3 h _ _ _ hP hD hS (lv_sub hl [1, 2, 4] rfl)
  · have h := (if_pos c21).symm.trans h
    refine lv_iload hx hb dX6_given_24 (lv_at hl 0 rfl) ?_
    refine lv_bipush (v := (9 : Int32)) hx hb dX6_given_26 k_bipush_9 ?_
    refine lv_icmp_eq (tgt := 40) hx hb dX6_given_28 (by decide) (fun c28 => ?_) (fun c28 => ?_)
    · have h := (if_pos c28).symm.trans h
      exact j40 x1 x3 h _ _ _ hP hD hS (lv_sub hl [1, 2, 4] rfl)
    · have h := (if_neg c28).symm.trans h
      refine lv_iload_n hx hb dX6_given_31 rfl (lv_at hl 4 rfl) ?_
      refine lv_iload hx hb dX6_given_32 (lv_at hl 0 rfl) ?_
      obtain ⟨o34, ho34, h⟩ := bnd_some h
      refine call_S0 (As := [.int x3, .int ((vM 1) (Int32.toNatClampNeg ((64 : Int32) + x1)))]) (rest := []) ⟨hx, hb, hml, hown, hts⟩ (c_X6_holds l G cI cZ  x3 ((vM 1) (Int32.toNatClampNeg ((64 : Int32) + x1))) o34 ho34) (va_cwS 2 hts gX6_given_X6_holds rfl rfl rfl hdS_X6_holds ⟨Nat.le_of_ble_eq_true rfl, Nat.le_of_ble_eq_true rfl⟩) hEN hA hP hD hS [] rfl (by decide) rfl hl.1 rfl (Nat.le_of_ble_eq_true rfl) dX6_given_34 ⟨Nat.le_of_ble_eq_true rfl, Nat.le_of_ble_eq_true rfl⟩ (fun H locs hP hS => ?_)
      refine lv_if_eq (tgt := 60) hx hb dX6_given_37 (by decide) (fun c37 => ?_) (fun c37 => ?_)
      · have h := (if_pos c37).symm.trans h
        exact j60 x1 x3 h _ _ _ hP hD hS (lv_sub hl [1, 2, 4] rfl)
      · have h := (if_neg c37).symm.trans h
        exact j40 x1 x3 h _ _ _ hP hD hS (lv_sub hl [1, 2, 4] rfl)
abbrev rm_X6_remember : Room := { frames := 0, cells := 0, slots := 0, locals := 0 }
theorem fi_X6_remember_X6 : ∀ w ∈ wsX60, w ∈ wsX6_remember := fun _ h => List.mem_cons_of_mem _ (List.mem_append_right _ h)
theorem hdV_X6_remember : yX6_remember.cls = RX6 ∧ yX6_remember.cls ≠ "java/lang/invoke/MethodHandle" ∧ yX6_remember.cls ≠ "java/lang/invoke/VarHandle" ∧ (parseMethodDescriptor yX6_remember.desc).map (fun d => d.parameters.length) = some 0 := by decide +kernel
set_option maxRecDepth 100000 in
set_option maxHeartbeats 4000000 in
theorem c_X6_remember (l : Launch) (G : va_G) (cI cZ : ClassId) (aM : Nat → Nat) (vT : Int64) (vM : Ob)  (res : Ob) (h : m_X6_remember vM  = some res) : Ct l yX6_remember wsX6_remember rm_X6_remember G cI cZ [.ref (aM 0)] [oX6 aM vM vT, ai cI (aM 1) 70 (vM 1), ai cI (aM 2) 70 (vM 2), ai cI (aM 3) 40 (vM 3), ai cI (aM 4) 80 (vM 4), ai cZ (aM 5) 2 (vM 5), ai cI (aM 6) 200 (vM 6), ai cI (aM 8) 12 (vM 8), ai cI (aM 10) 12 (vM 10), ai cI (aM 18) 427 (vM 18), ai cI (aM 21) 100 (vM 21), ai cI (aM 23) 100 (vM 23), ai cI (aM 24) 100 (vM 24), ai cI (aM 26) 7 (vM 26), ai cI (aM 27) 5 (vM 27), ai cI (aM 28) 64 (vM 28)] none [oX6 aM res vT, ai cI (aM 1) 70 (res 1), ai cI (aM 2) 70 (res 2), ai cI (aM 3) 40 (res 3), ai cI (aM 4) 80 (res 4), ai cZ (aM 5) 2 (res 5), ai cI (aM 6) 200 (res 6), ai cI (aM 8) 12 (res 8), ai cI (aM 10) 12 (res 10), ai cI (aM 18) 427 (res 18), ai cI (aM 21) 100 (res 21), ai cI (aM 23) 100 (res 23), ai cI (aM 24) 100 (res 24), ai cI (aM 26) 7 (res 26), ai cI (aM 27) 5 (res 27), ai cI (aM 28) 64 (res 28)] := by
  refine Ct.of_v (maxL := 3) (by decide) rfl (Nat.le_of_ble_eq_true rfl) ?_
  intro p e s m below meth c args hx hb hml hown hts A hA hEN hP hD hS Q hRet ls hl
  have hown : s.vm.findClass RX6 = some m.cls := hown
  have hl : lv_has ls 3 [(0, .ref (aM 0))] := hl
  have L66 : ∀ (out : Ob), (∀ ex : Ob, out = ex → ∀ (H : Heap) (locs : List Loc) (ls : Array Slot), va_P G vwCl [oX6 aM ex vT, ai cI (aM 1) 70 (ex 1), ai cI (aM 2) 70 (ex 2), ai cI (aM 3) 40 (ex 3), ai cI (aM 4) 80 (ex 4), ai cZ (aM 5) 2 (ex 5), ai cI (aM 6) 200 (ex 6), ai cI (aM 8) 12 (ex 8), ai cI (aM 10) 12 (ex 10), ai cI (aM 18) 427 (ex 18), ai cI (aM 21) 100 (ex 21), ai cI (aM 23) 100 (ex 23), ai cI (aM 24) 100 (ex 24), ai cI (aM 26) 7 (ex 26), ai cI (aM 27) 5 (ex 27), ai cI (aM 28) 64 (ex 28)] H → va_D A [oX6 aM ex vT, ai cI (aM 1) 70 (ex 1), ai cI (aM 2) 70 (ex 2), ai cI (aM 3) 40 (ex 3), ai cI (aM 4) 80 (ex 4), ai cZ (aM 5) 2 (ex 5), ai cI (aM 6) 200 (ex 6), ai cI (aM 8) 12 (ex 8), ai cI (aM 10) 12 (ex 10), ai cI (aM 18) 427 (ex 18), ai cI (aM 21) 100 (ex 21), ai cI (aM 23) 100 (ex 23), ai cI (aM 24) 100 (ex 24), ai cI (aM 26) 7 (ex 26), ai cI (aM 27) 5 (ex 27), ai cI (aM 28) 64 (ex 28)] → va_S A s.heap H locs → lv_has ls 3 [(0, .ref (aM 0))] → W p l e rm_X6_remember s m args below meth c H locs 0 0 Q (F0 m 91 ls [])) → ∀ (n : Nat) (vM : Ob) (x1 : Int32) (x2 : Int32), m_X6_remember_L66  n vM x1 x2 = some out → ∀ (H : Heap) (locs : List Loc) (ls : Array Slot), va_P G vwCl [oX6 aM vM vT, ai cI (aM 1) 70 (vM 1), ai cI (aM 2) 70 (vM 2), ai cI (aM 3) 40 (vM 3), ai cI (aM 4) 80 (vM 4), ai cZ (aM 5) 2 (vM 5), ai cI (aM 6) 200 (vM 6), ai cI (aM 8) 12 (vM 8), ai cI (aM 10) 12 (vM 10), ai cI (aM 18) 427 (vM 18), ai cI (aM 21) 100 (vM 21), ai cI (aM 23) 100 (vM 23), ai cI (aM 24) 100 (vM 24), ai cI (aM 26) 7 (vM 26), ai cI (aM 27) 5 (vM 27), ai cI (aM 28) 64 (vM 28)] H → va_D A [oX6 aM vM vT, ai cI (aM 1) 70 (vM 1), ai cI (aM 2) 70 (vM 2), ai cI (aM 3) 40 (vM 3), ai cI (aM 4) 80 (vM 4), ai cZ (aM 5) 2 (vM 5), ai cI (aM 6) 200 (vM 6), ai cI (aM 8) 12 (vM 8), ai cI (aM 10) 12 (vM 10), ai cI (aM 18) 427 (vM 18), ai cI (aM 21) 100 (vM 21), ai cI (aM 23) 100 (vM 23), ai cI (aM 24) 100 (vM 24), ai cI (aM 26) 7 (vM 26), ai cI (aM 27) 5 (vM 27), ai cI (aM 28) 64 (vM 28)] → va_S A s.heap H locs → lv_has ls 3 [(0, .ref (aM 0)), (1, .int x1), (2, .int x2)] → W p l e rm_X6_remember s m args below meth c H locs 0 0 Q (F0 m 66 ls []) := by
    intro out hKx
    intro n
    induction n with
    | zero => intro vM x1 x2 h; exact nomatch (show (none : Option (Ob)) = some out from h)
    | succ n hrc =>
      intro vM x1 x2 h H locs ls hP hD hS hl
      have h : m_X6_remember_L66B  (m_X6_remember_L66  n) vM x1 x2 = some out := h
      generalize m_X6_remember_L66  n = rc at h hrc
      unfold m_X6_remember_L66B at h
      refine lv_iload_n hx hb dX6_remember_66 rfl (lv_at hl 2 rfl) ?_
      refine lv_iconst (v := (3 : Int32)) hx hb dX6_remember_67 k_iconst_3 ?_
      refine lv_icmp_ge (tgt := 91) hx hb dX6_remember_68 (by decide) (fun c68 => ?_) (fun c68 => ?_)
      · have h := (if_pos c68).symm.trans h
        exact hKx _ (Option.some.inj h).symm _ _ _ hP hD hS (lv_sub hl [0] rfl)
      · have h := (if_neg c68).symm.trans h
        refine lv_aload_n hx hb dX6_remember_71 rfl (lv_at hl 0 rfl) ?_
        refine va_get (D := G) (ci := 6) (v := .ref (aM 3)) (C := RX6) (T := TX6) (N := 29) hx hb hts fi_X6_remember_X6 hown hEN.1 hP 0 rfl rfl 2 (by decide) (hts (.fieldLink RX6 16 "HourWellModel" "he" "[I") (List.mem_of_getElem? (i := 1) rfl)) (fun _ h9 => h9) rfl dX6_remember_72 ?_
        refine lv_iload_n hx hb dX6_remember_75 rfl (lv_at hl 1 rfl) ?_
        refine lv_iload_n hx hb dX6_remember_76 rfl (lv_at hl 2 rfl) ?_
        refine lv_iadd hx hb dX6_remember_77 ?_
        refine lv_aload_n hx hb dX6_remember_78 rfl (lv_at hl 0 rfl) ?_
        refine va_get (D := G) (ci := 6) (v := .ref (aM 3)) (C := RX6) (T := TX6) (N := 29) hx hb hts fi_X6_remember_X6 hown hEN.1 hP 0 rfl rfl 2 (by decide) (hts (.fieldLink RX6 16 "HourWellModel" "he" "[I") (List.mem_of_getElem? (i := 1) rfl)) (fun _ h9 => h9) rfl dX6_remember_79 ?_
        refine lv_iload_n hx hb dX6_remember_82 rfl (lv_at hl 2 rfl) ?_
        obtain ⟨hg83, h⟩ := grd_some h
        refine va_iald (f := (vM 3)) hx hb hEN.1 hP 3 0 rfl rfl (inb_in hg83) dX6_remember_83 ?_
        obtain ⟨hg84, h⟩ := grd_some h
        refine va_iast (f := (vM 3)) hx hb hEN.1 hP hD hS 3 0 rfl rfl (inb_in hg84) dX6_remember_84 (fun H locs hP hD hS => ?_)
        have hP : va_P G vwCl [oX6 aM vM vT, ai cI (aM 1) 70 (vM 1), ai cI (aM 2) 70 (vM 2), ai cI (aM 3) 40 (upd (vM 3) (Int32.toNatClampNeg (x1 + x2)) ((vM 3) (Int32.toNatClampNeg x2))), ai cI (aM 4) 80 (vM 4), ai cZ (aM 5) 2 (vM 5), ai cI (aM 6) 200 (vM 6), ai cI (aM 8) 12 (vM 8), ai cI (aM 10) 12 (vM 10), ai cI (aM 18) 427 (vM 18), ai cI (aM 21) 100 (vM 21), ai cI (aM 23) 100 (vM 23), ai cI (aM 24) 100 (vM 24), ai cI (aM 26) 7 (vM 26), ai cI (aM 27) 5 (vM 27), ai cI (aM 28) 64 (vM 28)] H := hP
        have hD : va_D A [oX6 aM vM vT, ai cI (aM 1) 70 (vM 1), ai cI (aM 2) 70 (vM 2), ai cI (aM 3) 40 (upd (vM 3) (Int32.toNatClampNeg (x1 + x2)) ((vM 3) (Int32.toNatClampNeg x2))), ai cI (aM 4) 80 (vM 4), ai cZ (aM 5) 2 (vM 5), ai cI (aM 6) 200 (vM 6), ai cI (aM 8) 12 (vM 8), ai cI (aM 10) 12 (vM 10), ai cI (aM 18) 427 (vM 18), ai cI (aM 21) 100 (vM 21), ai cI (aM 23) 100 (vM 23), ai cI (aM 24) 100 (vM 24), ai cI (aM 26) 7 (vM 26), ai cI (aM 27) 5 (vM 27), ai cI (aM 28) 64 (vM 28)] := hD
        refine lv_iinc (v := (x2 + (1 : Int32))) (lv' := [(2, .int (x2 + (1 : Int32))), (0, .ref (aM 0)), (1, .int x1)]) hx hb dX6_remember_85 hl (k := 2) rfl (congrArg (fun z => x2 + z) k_iconst_1) (by decide) rfl (fun ls hl => ?_)
        refine lv_goto (tgt := 66) hx hb dX6_remember_88 (by decide) ?_
        exact hrc (st vM 3 (Int32.toNatClampNeg (x1 + x2)) ((vM 3) (Int32.toNatClampNeg x2))) x1 (x2 + (1 : Int32)) h _ _ _ hP hD hS (lv_sub hl [1, 2, 0] rfl)
  have j53 : ∀ (vM : Ob), m_X6_remember_j53  vM = some res → ∀ (H : Heap) (locs : List Loc) (ls : Array Slot), va_P G vwCl [oX6 aM vM vT, ai cI (aM 1) 70 (vM 1), ai cI (aM 2) 70 (vM 2), ai cI (aM 3) 40 (vM 3), ai cI (aM 4) 80 (vM 4), ai cZ (aM 5) 2 (vM 5), ai cI (aM 6) 200 (vM 6), ai cI (aM 8) 12 (vM 8), ai cI (aM 10) 12 (vM 10), ai cI (aM 18) 427 (vM 18), ai cI (aM 21) 100 (vM 21), ai cI (aM 23) 100 (vM 23), ai cI (aM 24) 100 (vM 24), ai cI (aM 26) 7 (vM 26), ai cI (aM 27) 5 (vM 27), ai cI (aM 28) 64 (vM 28)] H → va_D A [oX6 aM vM vT, ai cI (aM 1) 70 (vM 1), ai cI (aM 2) 70 (vM 2), ai cI (aM 3) 40 (vM 3), ai cI (aM 4) 80 (vM 4), ai cZ (aM 5) 2 (vM 5), ai cI (aM 6) 200 (vM 6), ai cI (aM 8) 12 (vM 8), ai cI (aM 10) 12 (vM 10), ai cI (aM 18) 427 (vM 18), ai cI (aM 21) 100 (vM 21), ai cI (aM 23) 100 (vM 23), ai cI (aM 24) 100 (vM 24), ai cI (aM 26) 7 (vM 26), ai cI (aM 27) 5 (vM 27), ai cI (aM 28) 64 (vM 28)] → va_S A s.heap H locs → lv_has ls 3 [(0, .ref (aM 0))] → W p l e rm_X6_remember s m args below meth c H locs 0 0 Q (F0 m 53 ls []) := by
    intro vM h H locs ls hP hD hS hl
    unfold m_X6_remember_j53 at h
    refine lv_iconst (v := (4 : Int32)) hx hb dX6_remember_53 k_iconst_4 ?_
    refine lv_iconst (v := (3 : Int32)) hx hb dX6_remember_54 k_iconst_3 ?_
    refine lv_aload_n hx hb dX6_remember_55 rfl (lv_at hl 0 rfl) ?_
    refine va_get (D := G) (ci := 6) (v := .ref (aM 3)) (C := RX6) (T := TX6) (N := 29) hx hb hts fi_X6_remember_X6 hown hEN.1 hP 0 rfl rfl 2 (by decide) (hts (.fieldLink RX6 16 "HourWellModel" "he" "[I") (List.mem_of_getElem? (i := 1) rfl)) (fun _ h9 => h9) rfl dX6_remember_56 ?_
    refine lv_iconst (v := (3 : Int32)) hx hb dX6_remember_59 k_iconst_3 ?_
    refine va_iald (f := (vM 3)) hx hb hEN.1 hP 3 0 rfl rfl (inb_in (i := (3 : Int32)) (n := 40) rfl) dX6_remember_60 ?_
    refine lv_imul hx hb dX6_remember_61 ?_
    refine lv_iadd hx hb dX6_remember_62 ?_
    refine lv_istore_n (lv' := [(1, .int ((4 : Int32) + ((3 : Int32) * ((vM 3) (Int32.toNatClampNeg (3 : Int32)))))), (0, .ref (aM 0))]) hx hb dX6_remember_63 rfl hl (by decide) rfl (fun ls hl => ?_)
    refine lv_iconst (v := (0 : Int32)) hx hb dX6_remember_64 k_iconst_0 ?_
    refine lv_istore_n (lv' := [(2, .int (0 : Int32)), (1, .int ((4 : Int32) + ((3 : Int32) * ((vM 3) (Int32.toNatClampNeg (3 : Int32)))))), (0, .ref (aM 0))]) hx hb dX6_remember_65 rfl hl (by decide) rfl (fun ls hl => ?_)
    obtain ⟨o66_1, ho66_1, h⟩ := bnd_some h
    refine L66 o66_1 (fun o66_1e er H locs ls hP hD hS hl => ?_) FU vM ((4 : Int32) + ((3 : Int32) * ((vM 3) (Int32.toNatClampNeg (3 : Int32))))) (0 : Int32) ho66_1 _ _ _ hP hD hS (lv_sub hl [2, 1, 0] rfl)
    subst er
    refine lv_aload_n hx hb dX6_remember_91 rfl (lv_at hl 0 rfl) ?_
    refine va_get (D := G) (ci := 6) (v := .ref (aM 3)) (C := RX6) (T := TX6) (N := 29) hx hb hts fi_X6_remember_X6 hown hEN.1 hP 0 rfl rfl 2 (by decide) (hts (.fieldLink RX6 16 "HourWellModel" "he" "[I") (List.mem_of_getElem? (i := 1) rfl)) (fun _ h9 => h9) rfl dX6_remember_92 ?_
    refine lv_iconst (v := (3 : Int32)) hx hb dX6_remember_95 k_iconst_3 ?_
    refine lv_dup2_11 hx hb dX6_remember_96 rfl rfl ?_
    refine va_iald (f := (o66_1 3)) hx hb hEN.1 hP 3 0 rfl rfl (inb_in (i := (3 : Int32)) (n := 40) rfl) dX6_remember_97 ?_
    refine lv_iconst (v := (1 : Int32)) hx hb dX6_remember_98 k_iconst_1 ?_
    refine lv_iadd hx hb dX6_remember_99 ?_
    refine va_iast (f := (o66_1 3)) hx hb hEN.1 hP hD hS 3 0 rfl rfl (inb_in (i := (3 : Int32)) (n := 40) rfl) dX6_remember_100 (fun H locs hP hD hS => ?_)
    have hP : va_P G vwCl [oX6 aM o66_1 vT, ai cI (aM 1) 70 (o66_1 1), ai cI (aM 2) 70 (o66_1 2), ai cI (aM 3) 40 (upd (o66_1 3) (Int32.toNatClampNeg (3 : Int32)) (((o66_1 3) (Int32.toNatClampNeg (3 : Int32))) + (1 : Int32))), ai cI (aM 4) 80 (o66_1 4), ai cZ (aM 5) 2 (o66_1 5), ai cI (aM 6) 200 (o66_1 6), ai cI (aM 8) 12 (o66_1 8), ai cI (aM 10) 12 (o66_1 10), ai cI (aM 18) 427 (o66_1 18), ai cI (aM 21) 100 (o66_1 21), ai cI (aM 23) 100 (o66_1 23), ai cI (aM 24) 100 (o66_1 24), ai cI (aM 26) 7 (o66_1 26), ai cI (aM 27) 5 (o66_1 27), ai cI (aM 28) 64 (o66_1 28)] H := hP
    have hD : va_D A [oX6 aM o66_1 vT, ai cI (aM 1) 70 (o66_1 1), ai cI (aM 2) 70 (o66_1 2), ai cI (aM 3) 40 (upd (o66_1 3) (Int32.toNatClampNeg (3 : Int32)) (((o66_1 3) (Int32.toNatClampNeg (3 : Int32))) + (1 : Int32))), ai cI (aM 4) 80 (o66_1 4), ai cZ (aM 5) 2 (o66_1 5), ai cI (aM 6) 200 (o66_1 6), ai cI (aM 8) 12 (o66_1 8), ai cI (aM 10) 12 (o66_1 10), ai cI (aM 18) 427 (o66_1 18), ai cI (aM 21) 100 (o66_1 21), ai cI (aM 23) 100 (o66_1 23), ai cI (aM 24) 100 (o66_1 24), ai cI (aM 26) 7 (o66_1 26), ai cI (aM 27) 5 (o66_1 27), ai cI (aM 28) 64 (o66_1 28)] := hD
    have hres := Option.some.inj h
    subst hres
    exact hRet 101 _ _ _ hP hD hS dX6_remember_101
  have L13 : ∀ (out : Ob), (∀ ex : Ob, out = ex → ∀ (H : Heap) (locs : List Loc) (ls : Array Slot), va_P G vwCl [oX6 aM ex vT, ai cI (aM 1) 70 (ex 1), ai cI (aM 2) 70 (ex 2), ai cI (aM 3) 40 (ex 3), ai cI (aM 4) 80 (ex 4), ai cZ (aM 5) 2 (ex 5), ai cI (aM 6) 200 (ex 6), ai cI (aM 8) 12 (ex 8), ai cI (aM 10) 12 (ex 10), ai cI (aM 18) 427 (ex 18), ai cI (aM 21) 100 (ex 21), ai cI (aM 23) 100 (ex 23), ai cI (aM 24) 100 (ex 24), ai cI (aM 26) 7 (ex 26), ai cI (aM 27) 5 (ex 27), ai cI (aM 28) 64 (ex 28)] H → va_D A [oX6 aM ex vT, ai cI (aM 1) 70 (ex 1), ai cI (aM 2) 70 (ex 2), ai cI (aM 3) 40 (ex 3), ai cI (aM 4) 80 (ex 4), ai cZ (aM 5) 2 (ex 5), ai cI (aM 6) 200 (ex 6), ai cI (aM 8) 12 (ex 8), ai cI (aM 10) 12 (ex 10), ai cI (aM 18) 427 (ex 18), ai cI (aM 21) 100 (ex 21), ai cI (aM 23) 100 (ex 23), ai cI (aM 24) 100 (ex 24), ai cI (aM 26) 7 (ex 26), ai cI (aM 27) 5 (ex 27), ai cI (aM 28) 64 (ex 28)] → va_S A s.heap H locs → lv_has ls 3 [(0, .ref (aM 0))] → W p l e rm_X6_remember s m args below meth c H locs 0 0 Q (F0 m 43 ls [])) → ∀ (n : Nat) (vM : Ob) (x1 : Int32), m_X6_remember_L13  n vM x1 = some out → ∀ (H : Heap) (locs : List Loc) (ls : Array Slot), va_P G vwCl [oX6 aM vM vT, ai cI (aM 1) 70 (vM 1), ai cI (aM 2) 70 (vM 2), ai cI (aM 3) 40 (vM 3), ai cI (aM 4) 80 (vM 4), ai cZ (aM 5) 2 (vM 5), ai cI (aM 6) 200 (vM 6), ai cI (aM 8) 12 (vM 8), ai cI (aM 10) 12 (vM 10), ai cI (aM 18) 427 (vM 18), ai cI (aM 21) 100 (vM 21), ai cI (aM 23) 100 (vM 23), ai cI (aM 24) 100 (vM 24), ai cI (aM 26) 7 (vM 26), ai cI (aM 27) 5 (vM 27), ai cI (aM 28) 64 (vM 28)] H → va_D A [oX6 aM vM vT, ai cI (aM 1) 70 (vM 1), ai cI (aM 2) 70 (vM 2), ai cI (aM 3) 40 (vM 3), ai cI (aM 4) 80 (vM 4), ai cZ (aM 5) 2 (vM 5), ai cI (aM 6) 200 (vM 6), ai cI (aM 8) 12 (vM 8), ai cI (aM 10) 12 (vM 10), ai cI (aM 18) 427 (vM 18), ai cI (aM 21) 100 (vM 21), ai cI (aM 23) 100 (vM 23), ai cI (aM 24) 100 (vM 24), ai cI (aM 26) 7 (vM 26), ai cI (aM 27) 5 (vM 27), ai cI (aM 28) 64 (vM 28)] → va_S A s.heap H locs → lv_has ls 3 [(0, .ref (aM 0)), (1, .int x1)] → W p l e rm_X6_remember s m args below meth c H locs 0 0 Q (F0 m 13 ls []) := by
    intro out hKx
    intro n
    induction n with
    | zero => intro vM x1 h; exact nomatch (show (none : Option (Ob)) = some out from h)
    | succ n hrc =>
      intro vM x1 h H locs ls hP hD hS hl
      have h : m_X6_remember_L13B  (m_X6_remember_L13  n) vM x1 = some out := h
      generalize m_X6_remember_L13  n = rc at h hrc
      unfold m_X6_remember_L13B at h
      refine lv_iload_n hx hb dX6_remember_13 rfl (lv_at hl 1 rfl) ?_
      refine lv_bipush (v := (33 : Int32)) hx hb dX6_remember_14 k_bipush_33 ?_
      refine lv_icmp_ge (tgt := 43) hx hb dX6_remember_16 (by decide) (fun c16 => ?_) (fun c16 => ?_)
      · have h := (if_pos c16).symm.trans h
        exact hKx _ (Option.some.inj h).symm _ _ _ hP hD hS (lv_sub hl [0] rfl)
      · have h := (if_neg c16).symm.trans h
        refine lv_aload_n hx hb dX6_remember_19 rfl (lv_at hl 0 rfl) ?_
        refine va_get (D := G) (ci := 6) (v := .ref (aM 3)) (C := RX6) (T := TX6) (N := 29) hx hb hts fi_X6_remember_X6 hown hEN.1 hP 0 rfl rfl 2 (by decide) (hts (.fieldLink RX6 16 "HourWellModel" "he" "[I") (List.mem_of_getElem? (i := 1) rfl)) (fun _ h9 => h9) rfl dX6_remember_20 ?_
        refine lv_iconst (v := (4 : Int32)) hx hb dX6_remember_23 k_iconst_4 ?_
        refine lv_iload_n hx hb dX6_remember_24 rfl (lv_at hl 1 rfl) ?_
        refine lv_iadd hx hb dX6_remember_25 ?_
        refine lv_aload_n hx hb dX6_remember_26 rfl (lv_at hl 0 rfl) ?_
        refine va_get (D := G) (ci := 6) (v := .ref (aM 3)) (C := RX6) (T := TX6) (N := 29) hx hb hts fi_X6_remember_X6 hown hEN.1 hP 0 rfl rfl 2 (by decide) (hts (.fieldLink RX6 16 "HourWellModel" "he" "[I") (List.mem_of_getElem? (i := 1) rfl)) (fun _ h9 => h9) rfl dX6_remember_27 ?_
        refine lv_iconst (v := (4 : Int32)) hx hb dX6_remember_30 k_iconst_4 ?_
        refine lv_iload_n hx hb dX6_remember_31 rfl (lv_at hl 1 rfl) ?_
        refine lv_iadd hx hb dX6_remember_32 ?_
        refine lv_iconst (v := (3 : Int32)) hx hb dX6_remember_33 k_iconst_3 ?_
        refine lv_iadd hx hb dX6_remember_34 ?_
        obtain ⟨hg35, h⟩ := grd_some h
        refine va_iald (f := (vM 3)) hx hb hEN.1 hP 3 0 rfl rfl (inb_in hg35) dX6_remember_35 ?_
        obtain ⟨hg36, h⟩ := grd_some h
        refine va_iast (f := (vM 3)) hx hb hEN.1 hP hD hS 3 0 rfl rfl (inb_in hg36) dX6_remember_36 (fun H locs hP hD hS => ?_)
        have hP : va_P G vwCl [oX6 aM vM vT, ai cI (aM 1) 70 (vM 1), ai cI (aM 2) 70 (vM 2), ai cI (aM 3) 40 (upd (vM 3) (Int32.toNatClampNeg ((4 : Int32) + x1)) ((vM 3) (Int32.toNatClampNeg (((4 : Int32) + x1) + (3 : Int32))))), ai cI (aM 4) 80 (vM 4), ai cZ (aM 5) 2 (vM 5), ai cI (aM 6) 200 (vM 6), ai cI (aM 8) 12 (vM 8), ai cI (aM 10) 12 (vM 10), ai cI (aM 18) 427 (vM 18), ai cI (aM 21) 100 (vM 21), ai cI (aM 23) 100 (vM 23), ai cI (aM 24) 100 (vM 24), ai cI (aM 26) 7 (vM 26), ai cI (aM 27) 5 (vM 27), ai cI (aM 28) 64 (vM 28)] H := hP
        have hD : va_D A [oX6 aM vM vT, ai cI (aM 1) 70 (vM 1), ai cI (aM 2) 70 (vM 2), ai cI (aM 3) 40 (upd (vM 3) (Int32.toNatClampNeg ((4 : Int32) + x1)) ((vM 3) (Int32.toNatClampNeg (((4 : Int32) + x1) + (3 : Int32))))), ai cI (aM 4) 80 (vM 4), ai cZ (aM 5) 2 (vM 5), ai cI (aM 6) 200 (vM 6), ai cI (aM 8) 12 (vM 8), ai cI (aM 10) 12 (vM 10), ai cI (aM 18) 427 (vM 18), ai cI (aM 21) 100 (vM 21), ai cI (aM 23) 100 (vM 23), ai cI (aM 24) 100 (vM 24), ai cI (aM 26) 7 (vM 26), ai cI (aM 27) 5 (vM 27), ai cI (aM 28) 64 (vM 28)] := hD
        refine lv_iinc (v := (x1 + (1 : Int32))) (lv' := [(1, .int (x1 + (1 : Int32))), (0, .ref (aM 0))]) hx hb dX6_remember_37 hl (k := 1) rfl (congrArg (fun z => x1 + z) k_iconst_1) (by decide) rfl (fun ls hl => ?_)
        refine lv_goto (tgt := 13) hx hb dX6_remember_40 (by decide) ?_
        exact hrc (st vM 3 (Int32.toNatClampNeg ((4 : Int32) + x1)) ((vM 3) (Int32.toNatClampNeg (((4 : Int32) + x1) + (3 : Int32))))) (x1 + (1 : Int32)) h _ _ _ hP hD hS (lv_sub hl [1, 0] rfl)
  unfold m_X6_remember at h
  refine lv_aload_n hx hb dX6_remember_0 rfl (lv_at hl 0 rfl) ?_
  refine va_get (D := G) (ci := 6) (v := .ref (aM 3)) (C := RX6) (T := TX6) (N := 29) hx hb hts fi_X6_remember_X6 hown hEN.1 hP 0 rfl rfl 2 (by decide) (hts (.fieldLink RX6 16 "HourWellModel" "he" "[I") (List.mem_of_getElem? (i := 1) rfl)) (fun _ h9 => h9) rfl dX6_remember_1 ?_
  refine lv_iconst (v := (3 : Int32)) hx hb dX6_remember_4 k_iconst_3 ?_
  refine va_iald (f := (vM 3)) hx hb hEN.1 hP 3 0 rfl rfl (inb_in (i := (3 : Int32)) (n := 40) rfl) dX6_remember_5 ?_
  refine lv_bipush (v := (12 : Int32)) hx hb dX6_remember_6 k_bipush_12 ?_
  refine lv_icmp_ne (tgt := 53) hx hb dX6_remember_8 (by decide) (fun c8 => ?_) (fun c8 => ?_)
  · have h := (if_neg c8).symm.trans h
    exact j53 vM h _ _ _ hP hD hS (lv_sub hl [0] rfl)
  · have h := (if_pos c8).symm.trans h
    refine lv_iconst (v := (0 : Int32)) hx hb dX6_remember_11 k_iconst_0 ?_
    refine lv_istore_n (lv' := [(1, .int (0 : Int32)), (0, .ref (aM 0))]) hx hb dX6_remember_12 rfl hl (by decide) rfl (fun ls hl => ?_)
    obtain ⟨o13_2, ho13_2, h⟩ := bnd_some h
    refine L13 o13_2 (fun o13_2e er H locs ls hP hD hS hl => ?_) FU vM (0 : Int32) ho13_2 _ _ _ hP hD hS (lv_sub hl [1, 0] rfl)
    subst er
    refine lv_aload_n hx hb dX6_remember_43 rfl (lv_at hl 0 rfl) ?_
    refine va_get (D := G) (ci := 6) (v := .ref (aM 3)) (C := RX6) (T := TX6) (N := 29) hx hb hts fi_X6_remember_X6 hown hEN.1 hP 0 rfl rfl 2 (by decide) (hts (.fieldLink RX6 16 "HourWellModel" "he" "[I") (List.mem_of_getElem? (i := 1) rfl)) (fun _ h9 => h9) rfl dX6_remember_44 ?_
    refine lv_iconst (v := (3 : Int32)) hx hb dX6_remember_47 k_iconst_3 ?_
    refine lv_dup2_11 hx hb dX6_remember_48 rfl rfl ?_
    refine va_iald (f := (o13_2 3)) hx hb hEN.1 hP 3 0 rfl rfl (inb_in (i := (3 : Int32)) (n := 40) rfl) dX6_remember_49 ?_
    refine lv_iconst (v := (1 : Int32)) hx hb dX6_remember_50 k_iconst_1 ?_
    refine lv_isub hx hb dX6_remember_51 ?_
    refine va_iast (f := (o13_2 3)) hx hb hEN.1 hP hD hS 3 0 rfl rfl (inb_in (i := (3 : Int32)) (n := 40) rfl) dX6_remember_52 (fun H locs hP hD hS => ?_)
    have hP : va_P G vwCl [oX6 aM o13_2 vT, ai cI (aM 1) 70 (o13_2 1), ai cI (aM 2) 70 (o13_2 2), ai cI (aM 3) 40 (upd (o13_2 3) (Int32.toNatClampNeg (3 : Int32)) (((o13_2 3) (Int32.toNatClampNeg (3 : Int32))) - (1 : Int32))), ai cI (aM 4) 80 (o13_2 4), ai cZ (aM 5) 2 (o13_2 5), ai cI (aM 6) 200 (o13_2 6), ai cI (aM 8) 12 (o13_2 8), ai cI (aM 10) 12 (o13_2 10), ai cI (aM 18) 427 (o13_2 18), ai cI (aM 21) 100 (o13_2 21), ai cI (aM 23) 100 (o13_2 23), ai cI (aM 24) 100 (o13_2 24), ai cI (aM 26) 7 (o13_2 26), ai cI (aM 27) 5 (o13_2 27), ai cI (aM 28) 64 (o13_2 28)] H := hP
    have hD : va_D A [oX6 aM o13_2 vT, ai cI (aM 1) 70 (o13_2 1), ai cI (aM 2) 70 (o13_2 2), ai cI (aM 3) 40 (upd (o13_2 3) (Int32.toNatClampNeg (3 : Int32)) (((o13_2 3) (Int32.toNatClampNeg (3 : Int32))) - (1 : Int32))), ai cI (aM 4) 80 (o13_2 4), ai cZ (aM 5) 2 (o13_2 5), ai cI (aM 6) 200 (o13_2 6), ai cI (aM 8) 12 (o13_2 8), ai cI (aM 10) 12 (o13_2 10), ai cI (aM 18) 427 (o13_2 18), ai cI (aM 21) 100 (o13_2 21), ai cI (aM 23) 100 (o13_2 23), ai cI (aM 24) 100 (o13_2 24), ai cI (aM 26) 7 (o13_2 26), ai cI (aM 27) 5 (o13_2 27), ai cI (aM 28) 64 (o13_2 28)] := hD
    exact j53 (st o13_2 3 (Int32.toNatClampNeg (3 : Int32)) (((o13_2 3) (Int32.toNatClampNeg (3 : Int32))) - (1 : Int32))) h _ _ _ hP hD hS (lv_sub hl [0] rfl)
abbrev rm_X6_walks : Room := { frames := 2, cells := 0, slots := 0, locals := 48 }
theorem fi_X6_walks_X6 : ∀ w ∈ wsX60, w ∈ wsX6_walks := fun _ h => List.mem_cons_of_mem _ (List.mem_append_right _ h)
theorem hdV_X6_walks : yX6_walks.cls = RX6 ∧ yX6_walks.cls ≠ "java/lang/invoke/MethodHandle" ∧ yX6_walks.cls ≠ "java/lang/invoke/VarHandle" ∧ (parseMethodDescriptor yX6_walks.desc).map (fun d => d.parameters.length) = some 1 := by decide +kernel
set_option maxRecDepth 100000 in
set_option maxHeartbeats 4000000 in
theorem c_X6_walks (l : Launch) (G : va_G) (cI cZ : ClassId) (aM : Nat → Nat) (vT : Int64) (vM : Ob) (x1 : Int32) (res : Int32 × Ob) (h : m_X6_walks vM x1 = some res) : Ct l yX6_walks wsX6_walks rm_X6_walks G cI cZ [.ref (aM 0), .int x1] [oX6 aM vM vT, ai cI (aM 1) 70 (vM 1), ai cI (aM 2) 70 (vM 2), ai cI (aM 3) 40 (vM 3), ai cI (aM 4) 80 (vM 4), ai cZ (aM 5) 2 (vM 5), ai cI (aM 6) 200 (vM 6), ai cI (aM 8) 12 (vM 8), ai cI (aM 10) 12 (vM 10), ai cI (aM 18) 427 (vM 18), ai cI (aM 21) 100 (vM 21), ai cI (aM 23) 100 (vM 23), ai cI (aM 24) 100 (vM 24), ai cI (aM 26) 7 (vM 26), ai cI (aM 27) 5 (vM 27), ai cI (aM 28) 64 (vM 28)] (some (.int res.1)) [oX6 aM res.2 vT, ai cI (aM 1) 70 (res.2 1), ai cI (aM 2) 70 (res.2 2), ai cI (aM 3) 40 (res.2 3), ai cI (aM 4) 80 (res.2 4), ai cZ (aM 5) 2 (res.2 5), ai cI (aM 6) 200 (res.2 6), ai cI (aM 8) 12 (res.2 8), ai cI (aM 10) 12 (res.2 10), ai cI (aM 18) 427 (res.2 18), ai cI (aM 21) 100 (res.2 21), ai cI (aM 23) 100 (res.2 23), ai cI (aM 24) 100 (res.2 24), ai cI (aM 26) 7 (res.2 26), ai cI (aM 27) 5 (res.2 27), ai cI (aM 28) 64 (res.2 28)] := by
  refine Ct.of_i (maxL := 4) (by decide) rfl (Nat.le_of_ble_eq_true rfl) ?_
  intro p e s m below meth c args hx hb hml hown hts A hA hEN hP hD hS Q hRet ls hl
  have hown : s.vm.findClass RX6 = some m.cls := hown
  have hl : lv_has ls 4 [(0, .ref (aM 0)), (1, .int x1)] := hl
  have j56 : ∀ (vM : Ob) (x1 : Int32) (x2 : Int32) (s0 : Int32), m_X6_walks_j56  vM x1 x2 s0 = some res → ∀ (H : Heap) (locs : List Loc) (ls : Array Slot), va_P G vwCl [oX6 aM vM vT, ai cI (aM 1) 70 (vM 1), ai cI (aM 2) 70 (vM 2), ai cI (aM 3) 40 (vM 3), ai cI (aM 4) 80 (vM 4), ai cZ (aM 5) 2 (vM 5), ai cI (aM 6) 200 (vM 6), ai cI (aM 8) 12 (vM 8), ai cI (aM 10) 12 (vM 10), ai cI (aM 18) 427 (vM 18), ai cI (aM 21) 100 (vM 21), ai cI (aM 23) 100 (vM 23), ai cI (aM 24) 100 (vM 24), ai cI (aM 26) 7 (vM 26), ai cI (aM 27) 5 (vM 27), ai cI (aM 28) 64 (vM 28)] H → va_D A [oX6 aM vM vT, ai cI (aM 1) 70 (vM 1), ai cI (aM 2) 70 (vM 2), ai cI (aM 3) 40 (vM 3), ai cI (aM 4) 80 (vM 4), ai cZ (aM 5) 2 (vM 5), ai cI (aM 6) 200 (vM 6), ai cI (aM 8) 12 (vM 8), ai cI (aM 10) 12 (vM 10), ai cI (aM 18) 427 (vM 18), ai cI (aM 21) 100 (vM 21), ai cI (aM 23) 100 (vM 23), ai cI (aM 24) 100 (vM 24), ai cI (aM 26) 7 (vM 26), ai cI (aM 27) 5 (vM 27), ai cI (aM 28) 64 (vM 28)] → va_S A s.heap H locs → lv_has ls 4 [(0, .ref (aM 0)), (1, .int x1), (2, .int x2)] → W p l e rm_X6_walks s m args below meth c H locs 0 0 Q (F0 m 56 ls [.int s0]) := by
    intro vM x1 x2 s0 h H locs ls hP hD hS hl
    unfold m_X6_walks_j56 at h
    refine lv_istore_n (lv' := [(3, .int s0), (0, .ref (aM 0)), (1, .int x1), (2, .int x2)]) hx hb dX6_walks_56 rfl hl (by decide) rfl (fun ls hl => ?_)
    refine lv_iload_n hx hb dX6_walks_57 rfl (lv_at hl 0 rfl) ?_
    refine lv_if_ge (tgt := 64) hx hb dX6_walks_58 (by decide) (fun c58 => ?_) (fun c58 => ?_)
    · have h := (if_pos c58).symm.trans h
      refine lv_aload_n hx hb dX6_walks_64 rfl (lv_at hl 1 rfl) ?_
      obtain ⟨o65, ho65, h⟩ := bnd_some h
      refine call_VJ (wr := []) (As := []) (rest := []) ⟨hx, hb, hml, hown, hts⟩ (c_X6_remember l G cI cZ aM vT vM o65 ho65) (cwV 0 hts gX6_walks_X6_remember rfl rfl rfl hdV_X6_remember ⟨Nat.le_of_ble_eq_true rfl, Nat.le_of_ble_eq_true rfl⟩) hEN hA hP hD hS [0, 1, 2, 3, 4, 5, 6, 7, 8, 9, 10, 11, 12, 13, 14, 15] [] rfl (by decide) rfl (by decide) (by decide) 0 rfl rfl rfl hl.1 rfl (Nat.le_of_ble_eq_true rfl) dX6_walks_65 ⟨Nat.le_of_ble_eq_true rfl, Nat.le_of_ble_eq_true rfl⟩ (fun H locs hP hD hS => ?_)
      have hP : va_P G vwCl [oX6 aM o65 vT, ai cI (aM 1) 70 (o65 1), ai cI (aM 2) 70 (o65 2), ai cI (aM 3) 40 (o65 3), ai cI (aM 4) 80 (o65 4), ai cZ (aM 5) 2 (o65 5), ai cI (aM 6) 200 (o65 6), ai cI (aM 8) 12 (o65 8), ai cI (aM 10) 12 (o65 10), ai cI (aM 18) 427 (o65 18), ai cI (aM 21) 100 (o65 21), ai cI (aM 23) 100 (o65 23), ai cI (aM 24) 100 (o65 24), ai cI (aM 26) 7 (o65 26), ai cI (aM 27) 5 (o65 27), ai cI (aM 28) 64 (o65 28)] H := hP
      have hD : va_D A [oX6 aM o65 vT, ai cI (aM 1) 70 (o65 1), ai cI (aM 2) 70 (o65 2), ai cI (aM 3) 40 (o65 3), ai cI (aM 4) 80 (o65 4), ai cZ (aM 5) 2 (o65 5), ai cI (aM 6) 200 (o65 6), ai cI (aM 8) 12 (o65 8), ai cI (aM 10) 12 (o65 10), ai cI (aM 18) 427 (o65 18), ai cI (aM 21) 100 (o65 21), ai cI (aM 23) 100 (o65 23), ai cI (aM 24) 100 (o65 24), ai cI (aM 26) 7 (o65 26), ai cI (aM 27) 5 (o65 27), ai cI (aM 28) 64 (o65 28)] := hD
      refine lv_aload_n hx hb dX6_walks_68 rfl (lv_at hl 1 rfl) ?_
      refine va_get (D := G) (ci := 6) (v := .ref (aM 3)) (C := RX6) (T := TX6) (N := 29) hx hb hts fi_X6_walks_X6 hown hEN.1 hP 0 rfl rfl 2 (by decide) (hts (.fieldLink RX6 16 "HourWellModel" "he" "[I") (List.mem_of_getElem? (i := 1) rfl)) (fun _ h9 => h9) rfl dX6_walks_69 ?_
      refine lv_iconst (v := (0 : Int32)) hx hb dX6_walks_72 k_iconst_0 ?_
      refine lv_aload_n hx hb dX6_walks_73 rfl (lv_at hl 1 rfl) ?_
      refine lv_iload_n hx hb dX6_walks_74 rfl (lv_at hl 2 rfl) ?_
      refine lv_aload_n hx hb dX6_walks_75 rfl (lv_at hl 1 rfl) ?_
      refine va_get (D := G) (ci := 6) (v := .ref (aM 3)) (C := RX6) (T := TX6) (N := 29) hx hb hts fi_X6_walks_X6 hown hEN.1 hP 0 rfl rfl 2 (by decide) (hts (.fieldLink RX6 16 "HourWellModel" "he" "[I") (List.mem_of_getElem? (i := 1) rfl)) (fun _ h9 => h9) rfl dX6_walks_76 ?_
      refine lv_iconst (v := (0 : Int32)) hx hb dX6_walks_79 k_iconst_0 ?_
      refine va_iald (f := (o65 3)) hx hb hEN.1 hP 3 0 rfl rfl (inb_in (i := (0 : Int32)) (n := 40) rfl) dX6_walks_80 ?_
      obtain ⟨o81, ho81, h⟩ := bnd_some h
      refine call_V0 (As := [.int x1, .int ((o65 3) (Int32.toNatClampNeg (0 : Int32)))]) (rest := [.int (0 : Int32), .ref (aM 3)]) ⟨hx, hb, hml, hown, hts⟩ (c_X6_otherEnd l G cI cZ aM vT o65 x1 ((o65 3) (Int32.toNatClampNeg (0 : Int32))) o81 ho81) (cwV 2 hts gX6_walks_X6_otherEnd rfl rfl rfl hdV_X6_otherEnd ⟨Nat.le_of_ble_eq_true rfl, Nat.le_of_ble_eq_true rfl⟩) hEN hA hP hD hS [0, 1] rfl (by decide) 0 rfl rfl rfl hl.1 rfl (Nat.le_of_ble_eq_true rfl) dX6_walks_81 ⟨Nat.le_of_ble_eq_true rfl, Nat.le_of_ble_eq_true rfl⟩ (fun H locs hP hS => ?_)
      refine va_iast (f := (o65 3)) hx hb hEN.1 hP hD hS 3 0 rfl rfl (inb_in (i := (0 : Int32)) (n := 40) rfl) dX6_walks_84 (fun H locs hP hD hS => ?_)
      have hP : va_P G vwCl [oX6 aM o65 vT, ai cI (aM 1) 70 (o65 1), ai cI (aM 2) 70 (o65 2), ai cI (aM 3) 40 (upd (o65 3) (Int32.toNatClampNeg (0 : Int32)) o81), ai cI (aM 4) 80 (o65 4), ai cZ (aM 5) 2 (o65 5), ai cI (aM 6) 200 (o65 6), ai cI (aM 8) 12 (o65 8), ai cI (aM 10) 12 (o65 10), ai cI (aM 18) 427 (o65 18), ai cI (aM 21) 100 (o65 21), ai cI (aM 23) 100 (o65 23), ai cI (aM 24) 100 (o65 24), ai cI (aM 26) 7 (o65 26), ai cI (aM 27) 5 (o65 27), ai cI (aM 28) 64 (o65 28)] H := hP
      have hD : va_D A [oX6 aM o65 vT, ai cI (aM 1) 70 (o65 1), ai cI (aM 2) 70 (o65 2), ai cI (aM 3) 40 (upd (o65 3) (Int32.toNatClampNeg (0 : Int32)) o81), ai cI (aM 4) 80 (o65 4), ai cZ (aM 5) 2 (o65 5), ai cI (aM 6) 200 (o65 6), ai cI (aM 8) 12 (o65 8), ai cI (aM 10) 12 (o65 10), ai cI (aM 18) 427 (o65 18), ai cI (aM 21) 100 (o65 21), ai cI (aM 23) 100 (o65 23), ai cI (aM 24) 100 (o65 24), ai cI (aM 26) 7 (o65 26), ai cI (aM 27) 5 (o65 27), ai cI (aM 28) 64 (o65 28)] := hD
      refine lv_aload_n hx hb dX6_walks_85 rfl (lv_at hl 1 rfl) ?_
      refine va_get (D := G) (ci := 6) (v := .ref (aM 3)) (C := RX6) (T := TX6) (N := 29) hx hb hts fi_X6_walks_X6 hown hEN.1 hP 0 rfl rfl 2 (by decide) (hts (.fieldLink RX6 16 "HourWellModel" "he" "[I") (List.mem_of_getElem? (i := 1) rfl)) (fun _ h9 => h9) rfl dX6_walks_86 ?_
      refine lv_iconst (v := (1 : Int32)) hx hb dX6_walks_89 k_iconst_1 ?_
      refine lv_iload_n hx hb dX6_walks_90 rfl (lv_at hl 3 rfl) ?_
      refine va_iast (f := (upd (o65 3) (Int32.toNatClampNeg (0 : Int32)) o81)) hx hb hEN.1 hP hD hS 3 0 rfl rfl (inb_in (i := (1 : Int32)) (n := 40) rfl) dX6_walks_91 (fun H locs hP hD hS => ?_)
      have hP : va_P G vwCl [oX6 aM o65 vT, ai cI (aM 1) 70 (o65 1), ai cI (aM 2) 70 (o65 2), ai cI (aM 3) 40 (upd (upd (o65 3) (Int32.toNatClampNeg (0 : Int32)) o81) (Int32.toNatClampNeg (1 : Int32)) x2), ai cI (aM 4) 80 (o65 4), ai cZ (aM 5) 2 (o65 5), ai cI (aM 6) 200 (o65 6), ai cI (aM 8) 12 (o65 8), ai cI (aM 10) 12 (o65 10), ai cI (aM 18) 427 (o65 18), ai cI (aM 21) 100 (o65 21), ai cI (aM 23) 100 (o65 23), ai cI (aM 24) 100 (o65 24), ai cI (aM 26) 7 (o65 26), ai cI (aM 27) 5 (o65 27), ai cI (aM 28) 64 (o65 28)] H := hP
      have hD : va_D A [oX6 aM o65 vT, ai cI (aM 1) 70 (o65 1), ai cI (aM 2) 70 (o65 2), ai cI (aM 3) 40 (upd (upd (o65 3) (Int32.toNatClampNeg (0 : Int32)) o81) (Int32.toNatClampNeg (1 : Int32)) x2), ai cI (aM 4) 80 (o65 4), ai cZ (aM 5) 2 (o65 5), ai cI (aM 6) 200 (o65 6), ai cI (aM 8) 12 (o65 8), ai cI (aM 10) 12 (o65 10), ai cI (aM 18) 427 (o65 18), ai cI (aM 21) 100 (o65 21), ai cI (aM 23) 100 (o65 23), ai cI (aM 24) 100 (o65 24), ai cI (aM 26) 7 (o65 26), ai cI (aM 27) 5 (o65 27), ai cI (aM 28) 64 (o65 28)] := hD
      refine lv_aload_n hx hb dX6_walks_92 rfl (lv_at hl 1 rfl) ?_
      refine va_get (D := G) (ci := 6) (v := .ref (aM 3)) (C := RX6) (T := TX6) (N := 29) hx hb hts fi_X6_walks_X6 hown hEN.1 hP 0 rfl rfl 2 (by decide) (hts (.fieldLink RX6 16 "HourWellModel" "he" "[I") (List.mem_of_getElem? (i := 1) rfl)) (fun _ h9 => h9) rfl dX6_walks_93 ?_
      refine lv_iconst (v := (2 : Int32)) hx hb dX6_walks_96 k_iconst_2 ?_
      refine lv_iload_n hx hb dX6_walks_97 rfl (lv_at hl 0 rfl) ?_
      refine va_iast (f := (upd (upd (o65 3) (Int32.toNatClampNeg (0 : Int32)) o81) (Int32.toNatClampNeg (1 : Int32)) x2)) hx hb hEN.1 hP hD hS 3 0 rfl rfl (inb_in (i := (2 : Int32)) (n := 40) rfl) dX6_walks_98 (fun H locs hP hD hS => ?_)
      have hP : va_P G vwCl [oX6 aM o65 vT, ai cI (aM 1) 70 (o65 1), ai cI (aM 2) 70 (o65 2), ai cI (aM 3) 40 (upd (upd (upd (o65 3) (Int32.toNatClampNeg (0 : Int32)) o81) (Int32.toNatClampNeg (1 : Int32)) x2) (Int32.toNatClampNeg (2 : Int32)) s0), ai cI (aM 4) 80 (o65 4), ai cZ (aM 5) 2 (o65 5), ai cI (aM 6) 200 (o65 6), ai cI (aM 8) 12 (o65 8), ai cI (aM 10) 12 (o65 10), ai cI (aM 18) 427 (o65 18), ai cI (aM 21) 100 (o65 21), ai cI (aM 23) 100 (o65 23), ai cI (aM 24) 100 (o65 24), ai cI (aM 26) 7 (o65 26), ai cI (aM 27) 5 (o65 27), ai cI (aM 28) 64 (o65 28)] H := hP
      have hD : va_D A [oX6 aM o65 vT, ai cI (aM 1) 70 (o65 1), ai cI (aM 2) 70 (o65 2), ai cI (aM 3) 40 (upd (upd (upd (o65 3) (Int32.toNatClampNeg (0 : Int32)) o81) (Int32.toNatClampNeg (1 : Int32)) x2) (Int32.toNatClampNeg (2 : Int32)) s0), ai cI (aM 4) 80 (o65 4), ai cZ (aM 5) 2 (o65 5), ai cI (aM 6) 200 (o65 6), ai cI (aM 8) 12 (o65 8), ai cI (aM 10) 12 (o65 10), ai cI (aM 18) 427 (o65 18), ai cI (aM 21) 100 (o65 21), ai cI (aM 23) 100 (o65 23), ai cI (aM 24) 100 (o65 24), ai cI (aM 26) 7 (o65 26), ai cI (aM 27) 5 (o65 27), ai cI (aM 28) 64 (o65 28)] := hD
      refine lv_aload_n hx hb dX6_walks_99 rfl (lv_at hl 1 rfl) ?_
      refine va_get (D := G) (ci := 6) (v := .ref (aM 3)) (C := RX6) (T := TX6) (N := 29) hx hb hts fi_X6_walks_X6 hown hEN.1 hP 0 rfl rfl 2 (by decide) (hts (.fieldLink RX6 16 "HourWellModel" "he" "[I") (List.mem_of_getElem? (i := 1) rfl)) (fun _ h9 => h9) rfl dX6_walks_100 ?_
      refine lv_iconst (v := (0 : Int32)) hx hb dX6_walks_103 k_iconst_0 ?_
      refine va_iald (f := (upd (upd (upd (o65 3) (Int32.toNatClampNeg (0 : Int32)) o81) (Int32.toNatClampNeg (1 : Int32)) x2) (Int32.toNatClampNeg (2 : Int32)) s0)) hx hb hEN.1 hP 3 0 rfl rfl (inb_in (i := (0 : Int32)) (n := 40) rfl) dX6_walks_104 ?_
      have hres := Option.some.inj h
      subst hres
      exact hRet 105 _ _ _ hP hD hS dX6_walks_105
    · have h := (if_neg c58).symm.trans h
      refine lv_bipush (v := (-2 : Int32)) hx hb dX6_walks_61 k_bipush_n2 ?_
      have hres := Option.some.inj h
      subst hres
      exact hRet 63 _ _ _ hP hD hS dX6_walks_63
  unfold m_X6_walks at h
  refine lv_aload_n hx hb dX6_walks_0 rfl (lv_at hl 0 rfl) ?_
  refine lv_iload_n hx hb dX6_walks_1 rfl (lv_at hl 1 rfl) ?_
  obtain ⟨o2, ho2, h⟩ := bnd_some h
  refine call_V0 (As := [.int x1]) (rest := []) ⟨hx, hb, hml, hown, hts⟩ (c_X6_isRoad l G cI cZ aM vT vM x1 o2 ho2) (cwV 1 hts gX6_walks_X6_isRoad rfl rfl rfl hdV_X6_isRoad ⟨Nat.le_of_ble_eq_true rfl, Nat.le_of_ble_eq_true rfl⟩) hEN hA hP hD hS [0, 1] rfl (by decide) 0 rfl rfl rfl hl.1 rfl (Nat.le_of_ble_eq_true rfl) dX6_walks_2 ⟨Nat.le_of_ble_eq_true rfl, Nat.le_of_ble_eq_true rfl⟩ (fun H locs hP hS => ?_)
  refine lv_if_ne (tgt := 10) hx hb dX6_walks_5 (by decide) (fun c5 => ?_) (fun c5 => ?_)
  · have h := (if_neg c5).symm.trans h
    refine lv_aload_n hx hb dX6_walks_10 rfl (lv_at hl 0 rfl) ?_
    refine va_get (D := G) (ci := 6) (v := .ref (aM 3)) (C := RX6) (T := TX6) (N := 29) hx hb hts fi_X6_walks_X6 hown hEN.1 hP 0 rfl rfl 2 (by decide) (hts (.fieldLink RX6 16 "HourWellModel" "he" "[I") (List.mem_of_getElem? (i := 1) rfl)) (fun _ h9 => h9) rfl dX6_walks_11 ?_
    refine lv_iconst (v := (1 : Int32)) hx hb dX6_walks_14 k_iconst_1 ?_
    refine va_iald (f := (vM 3)) hx hb hEN.1 hP 3 0 rfl rfl (inb_in (i := (1 : Int32)) (n := 40) rfl) dX6_walks_15 ?_
    refine lv_aload_n hx hb dX6_walks_16 rfl (lv_at hl 0 rfl) ?_
    refine va_get (D := G) (ci := 6) (v := .ref (aM 1)) (C := RX6) (T := TX6) (N := 29) hx hb hts fi_X6_walks_X6 hown hEN.1 hP 0 rfl rfl 0 (by decide) (hts (.fieldLink RX6 7 "HourWellModel" "tale" "[I") (List.mem_of_getElem? (i := 2) rfl)) (fun _ h9 => h9) rfl dX6_walks_17 ?_
    refine lv_bipush (v := (43 : Int32)) hx hb dX6_walks_20 k_bipush_43 ?_
    refine lv_iload_n hx hb dX6_walks_22 rfl (lv_at hl 1 rfl) ?_
    refine lv_iadd hx hb dX6_walks_23 ?_
    obtain ⟨hg24, h⟩ := grd_some h
    refine va_iald (f := (vM 1)) hx hb hEN.1 hP 1 0 rfl rfl (inb_in hg24) dX6_walks_24 ?_
    refine lv_iadd hx hb dX6_walks_25 ?_
    refine lv_istore_n (lv' := [(2, .int (((vM 3) (Int32.toNatClampNeg (1 : Int32))) + ((vM 1) (Int32.toNatClampNeg ((43 : Int32) + x1))))), (0, .ref (aM 0)), (1, .int x1)]) hx hb dX6_walks_26 rfl hl (by decide) rfl (fun ls hl => ?_)
    refine lv_iload_n hx hb dX6_walks_27 rfl (lv_at hl 0 rfl) ?_
    refine lv_sipush (v := (9999 : Int32)) hx hb dX6_walks_28 k_sipush_9999 ?_
    refine lv_icmp_le (tgt := 38) hx hb dX6_walks_31 (by decide) (fun c31 => ?_) (fun c31 => ?_)
    · have h := (if_pos c31).symm.trans h
      refine lv_aload_n hx hb dX6_walks_38 rfl (lv_at hl 1 rfl) ?_
      refine lv_iload_n hx hb dX6_walks_39 rfl (lv_at hl 2 rfl) ?_
      refine lv_aload_n hx hb dX6_walks_40 rfl (lv_at hl 1 rfl) ?_
      refine va_get (D := G) (ci := 6) (v := .ref (aM 3)) (C := RX6) (T := TX6) (N := 29) hx hb hts fi_X6_walks_X6 hown hEN.1 hP 0 rfl rfl 2 (by decide) (hts (.fieldLink RX6 16 "HourWellModel" "he" "[I") (List.mem_of_getElem? (i := 1) rfl)) (fun _ h9 => h9) rfl dX6_walks_41 ?_
      refine lv_iconst (v := (0 : Int32)) hx hb dX6_walks_44 k_iconst_0 ?_
      refine va_iald (f := (vM 3)) hx hb hEN.1 hP 3 0 rfl rfl (inb_in (i := (0 : Int32)) (n := 40) rfl) dX6_walks_45 ?_
      refine lv_iload_n hx hb dX6_walks_46 rfl (lv_at hl 0 rfl) ?_
      refine lv_aload_n hx hb dX6_walks_47 rfl (lv_at hl 1 rfl) ?_
      refine va_get (D := G) (ci := 6) (v := .ref (aM 3)) (C := RX6) (T := TX6) (N := 29) hx hb hts fi_X6_walks_X6 hown hEN.1 hP 0 rfl rfl 2 (by decide) (hts (.fieldLink RX6 16 "HourWellModel" "he" "[I") (List.mem_of_getElem? (i := 1) rfl)) (fun _ h9 => h9) rfl dX6_walks_48 ?_
      refine lv_iconst (v := (2 : Int32)) hx hb dX6_walks_51 k_iconst_2 ?_
      refine va_iald (f := (vM 3)) hx hb hEN.1 hP 3 0 rfl rfl (inb_in (i := (2 : Int32)) (n := 40) rfl) dX6_walks_52 ?_
      obtain ⟨o53, ho53, h⟩ := bnd_some h
      refine call_V0 (As := [.int x1, .int ((vM 3) (Int32.toNatClampNeg (0 : Int32))), .int (((vM 3) (Int32.toNatClampNeg (1 : Int32))) + ((vM 1) (Int32.toNatClampNeg ((43 : Int32) + x1)))), .int ((vM 3) (Int32.toNatClampNeg (2 : Int32)))]) (rest := []) ⟨hx, hb, hml, hown, hts⟩ (c_X6_enters l G cI cZ aM vT vM x1 ((vM 3) (Int32.toNatClampNeg (0 : Int32))) (((vM 3) (Int32.toNatClampNeg (1 : Int32))) + ((vM 1) (Int32.toNatClampNeg ((43 : Int32) + x1)))) ((vM 3) (Int32.toNatClampNeg (2 : Int32))) o53 ho53) (cwV 4 hts gX6_walks_X6_enters rfl rfl rfl hdV_X6_enters ⟨Nat.le_of_ble_eq_true rfl, Nat.le_of_ble_eq_true rfl⟩) hEN hA hP hD hS [0, 1] rfl (by decide) 0 rfl rfl rfl hl.1 rfl (Nat.le_of_ble_eq_true rfl) dX6_walks_53 ⟨Nat.le_of_ble_eq_true rfl, Nat.le_of_ble_eq_true rfl⟩ (fun H locs hP hS => ?_)
      exact j56 vM x1 (((vM 3) (Int32.toNatClampNeg (1 : Int32))) + ((vM 1) (Int32.toNatClampNeg ((43 : Int32) + x1)))) o53 h _ _ _ hP hD hS (lv_sub hl [1, 2, 0] rfl)
    · have h := (if_neg c31).symm.trans h
      refine lv_iconst (v := (-1 : Int32)) hx hb dX6_walks_34 k_iconst_n1 ?_
      refine lv_goto (tgt := 56) hx hb dX6_walks_35 (by decide) ?_
      exact j56 vM x1 (((vM 3) (Int32.toNatClampNeg (1 : Int32))) + ((vM 1) (Int32.toNatClampNeg ((43 : Int32) + x1)))) (-1 : Int32) h _ _ _ hP hD hS (lv_sub hl [1, 2, 0] rfl)
  · have h := (if_pos c5).symm.trans h
    refine lv_iconst (v := (-1 : Int32)) hx hb dX6_walks_8 k_iconst_n1 ?_
    have hres := Option.some.inj h
    subst hres
    exact hRet 9 _ _ _ hP hD hS dX6_walks_9
abbrev rm_X6_waits : Room := { frames := 1, cells := 0, slots := 0, locals := 22 }
theorem fi_X6_waits_X6 : ∀ w ∈ wsX60, w ∈ wsX6_waits := fun _ h => List.mem_cons_of_mem _ (List.mem_append_right _ h)
theorem hdV_X6_waits : yX6_waits.cls = RX6 ∧ yX6_waits.cls ≠ "java/lang/invoke/MethodHandle" ∧ yX6_waits.cls ≠ "java/lang/invoke/VarHandle" ∧ (parseMethodDescriptor yX6_waits.desc).map (fun d => d.parameters.length) = some 0 := by decide +kernel
set_option maxRecDepth 100000 in
set_option maxHeartbeats 4000000 in
theorem c_X6_waits (l : Launch) (G : va_G) (cI cZ : ClassId) (aM : Nat → Nat) (vT : Int64) (vM : Ob)  (res : Int32 × Ob) (h : m_X6_waits vM  = some res) : Ct l yX6_waits wsX6_waits rm_X6_waits G cI cZ [.ref (aM 0)] [oX6 aM vM vT, ai cI (aM 1) 70 (vM 1), ai cI (aM 2) 70 (vM 2), ai cI (aM 3) 40 (vM 3), ai cI (aM 4) 80 (vM 4), ai cZ (aM 5) 2 (vM 5), ai cI (aM 6) 200 (vM 6), ai cI (aM 8) 12 (vM 8), ai cI (aM 10) 12 (vM 10), ai cI (aM 18) 427 (vM 18), ai cI (aM 21) 100 (vM 21), ai cI (aM 23) 100 (vM 23), ai cI (aM 24) 100 (vM 24), ai cI (aM 26) 7 (vM 26), ai cI (aM 27) 5 (vM 27), ai cI (aM 28) 64 (vM 28)] (some (.int res.1)) [oX6 aM res.2 vT, ai cI (aM 1) 70 (res.2 1), ai cI (aM 2) 70 (res.2 2), ai cI (aM 3) 40 (res.2 3), ai cI (aM 4) 80 (res.2 4), ai cZ (aM 5) 2 (res.2 5), ai cI (aM 6) 200 (res.2 6), ai cI (aM 8) 12 (res.2 8), ai cI (aM 10) 12 (res.2 10), ai cI (aM 18) 427 (res.2 18), ai cI (aM 21) 100 (res.2 21), ai cI (aM 23) 100 (res.2 23), ai cI (aM 24) 100 (res.2 24), ai cI (aM 26) 7 (res.2 26), ai cI (aM 27) 5 (res.2 27), ai cI (aM 28) 64 (res.2 28)] := by
  refine Ct.of_i (maxL := 1) (by decide) rfl (Nat.le_of_ble_eq_true rfl) ?_
  intro p e s m below meth c args hx hb hml hown hts A hA hEN hP hD hS Q hRet ls hl
  have hown : s.vm.findClass RX6 = some m.cls := hown
  have hl : lv_has ls 1 [(0, .ref (aM 0))] := hl
  unfold m_X6_waits at h
  refine lv_aload_n hx hb dX6_waits_0 rfl (lv_at hl 0 rfl) ?_
  refine va_get (D := G) (ci := 6) (v := .ref (aM 1)) (C := RX6) (T := TX6) (N := 29) hx hb hts fi_X6_waits_X6 hown hEN.1 hP 0 rfl rfl 0 (by decide) (hts (.fieldLink RX6 7 "HourWellModel" "tale" "[I") (List.mem_of_getElem? (i := 1) rfl)) (fun _ h9 => h9) rfl dX6_waits_1 ?_
  refine lv_iconst (v := (0 : Int32)) hx hb dX6_waits_4 k_iconst_0 ?_
  refine va_iald (f := (vM 1)) hx hb hEN.1 hP 1 0 rfl rfl (inb_in (i := (0 : Int32)) (n := 70) rfl) dX6_waits_5 ?_
  refine lv_if_eq (tgt := 21) hx hb dX6_waits_6 (by decide) (fun c6 => ?_) (fun c6 => ?_)
  · have h := (if_pos c6).symm.trans h
    refine lv_bipush (v := (-2 : Int32)) hx hb dX6_waits_21 k_bipush_n2 ?_
    have hres := Option.some.inj h
    subst hres
    exact hRet 23 _ _ _ hP hD hS dX6_waits_23
  · have h := (if_neg c6).symm.trans h
    refine lv_aload_n hx hb dX6_waits_9 rfl (lv_at hl 0 rfl) ?_
    refine va_get (D := G) (ci := 6) (v := .ref (aM 3)) (C := RX6) (T := TX6) (N := 29) hx hb hts fi_X6_waits_X6 hown hEN.1 hP 0 rfl rfl 2 (by decide) (hts (.fieldLink RX6 16 "HourWellModel" "he" "[I") (List.mem_of_getElem? (i := 2) rfl)) (fun _ h9 => h9) rfl dX6_waits_10 ?_
    refine lv_iconst (v := (1 : Int32)) hx hb dX6_waits_13 k_iconst_1 ?_
    refine va_iald (f := (vM 3)) hx hb hEN.1 hP 3 0 rfl rfl (inb_in (i := (1 : Int32)) (n := 40) rfl) dX6_waits_14 ?_
    refine lv_sipush (v := (9999 : Int32)) hx hb dX6_waits_15 k_sipush_9999 ?_
    refine lv_icmp_ne (tgt := 24) hx hb dX6_waits_18 (by decide) (fun c18 => ?_) (fun c18 => ?_)
    · have h := (if_neg c18).symm.trans h
      refine lv_aload_n hx hb dX6_waits_24 rfl (lv_at hl 0 rfl) ?_
      obtain ⟨o25, ho25, h⟩ := bnd_some h
      refine call_VJ (wr := []) (As := []) (rest := []) ⟨hx, hb, hml, hown, hts⟩ (c_X6_remember l G cI cZ aM vT vM o25 ho25) (cwV 0 hts gX6_waits_X6_remember rfl rfl rfl hdV_X6_remember ⟨Nat.le_of_ble_eq_true rfl, Nat.le_of_ble_eq_true rfl⟩) hEN hA hP hD hS [0, 1, 2, 3, 4, 5, 6, 7, 8, 9, 10, 11, 12, 13, 14, 15] [] rfl (by decide) rfl (by decide) (by decide) 0 rfl rfl rfl hl.1 rfl (Nat.le_of_ble_eq_true rfl) dX6_waits_25 ⟨Nat.le_of_ble_eq_true rfl, Nat.le_of_ble_eq_true rfl⟩ (fun H locs hP hD hS => ?_)
      have hP : va_P G vwCl [oX6 aM o25 vT, ai cI (aM 1) 70 (o25 1), ai cI (aM 2) 70 (o25 2), ai cI (aM 3) 40 (o25 3), ai cI (aM 4) 80 (o25 4), ai cZ (aM 5) 2 (o25 5), ai cI (aM 6) 200 (o25 6), ai cI (aM 8) 12 (o25 8), ai cI (aM 10) 12 (o25 10), ai cI (aM 18) 427 (o25 18), ai cI (aM 21) 100 (o25 21), ai cI (aM 23) 100 (o25 23), ai cI (aM 24) 100 (o25 24), ai cI (aM 26) 7 (o25 26), ai cI (aM 27) 5 (o25 27), ai cI (aM 28) 64 (o25 28)] H := hP
      have hD : va_D A [oX6 aM o25 vT, ai cI (aM 1) 70 (o25 1), ai cI (aM 2) 70 (o25 2), ai cI (aM 3) 40 (o25 3), ai cI (aM 4) 80 (o25 4), ai cZ (aM 5) 2 (o25 5), ai cI (aM 6) 200 (o25 6), ai cI (aM 8) 12 (o25 8), ai cI (aM 10) 12 (o25 10), ai cI (aM 18) 427 (o25 18), ai cI (aM 21) 100 (o25 21), ai cI (aM 23) 100 (o25 23), ai cI (aM 24) 100 (o25 24), ai cI (aM 26) 7 (o25 26), ai cI (aM 27) 5 (o25 27), ai cI (aM 28) 64 (o25 28)] := hD
      refine lv_aload_n hx hb dX6_waits_28 rfl (lv_at hl 0 rfl) ?_
      refine va_get (D := G) (ci := 6) (v := .ref (aM 3)) (C := RX6) (T := TX6) (N := 29) hx hb hts fi_X6_waits_X6 hown hEN.1 hP 0 rfl rfl 2 (by decide) (hts (.fieldLink RX6 16 "HourWellModel" "he" "[I") (List.mem_of_getElem? (i := 2) rfl)) (fun _ h9 => h9) rfl dX6_waits_29 ?_
      refine lv_iconst (v := (1 : Int32)) hx hb dX6_waits_32 k_iconst_1 ?_
      refine lv_dup2_11 hx hb dX6_waits_33 rfl rfl ?_
      refine va_iald (f := (o25 3)) hx hb hEN.1 hP 3 0 rfl rfl (inb_in (i := (1 : Int32)) (n := 40) rfl) dX6_waits_34 ?_
      refine lv_iconst (v := (1 : Int32)) hx hb dX6_waits_35 k_iconst_1 ?_
      refine lv_iadd hx hb dX6_waits_36 ?_
      refine va_iast (f := (o25 3)) hx hb hEN.1 hP hD hS 3 0 rfl rfl (inb_in (i := (1 : Int32)) (n := 40) rfl) dX6_waits_37 (fun H locs hP hD hS => ?_)
      have hP : va_P G vwCl [oX6 aM o25 vT, ai cI (aM 1) 70 (o25 1), ai cI (aM 2) 70 (o25 2), ai cI (aM 3) 40 (upd (o25 3) (Int32.toNatClampNeg (1 : Int32)) (((o25 3) (Int32.toNatClampNeg (1 : Int32))) + (1 : Int32))), ai cI (aM 4) 80 (o25 4), ai cZ (aM 5) 2 (o25 5), ai cI (aM 6) 200 (o25 6), ai cI (aM 8) 12 (o25 8), ai cI (aM 10) 12 (o25 10), ai cI (aM 18) 427 (o25 18), ai cI (aM 21) 100 (o25 21), ai cI (aM 23) 100 (o25 23), ai cI (aM 24) 100 (o25 24), ai cI (aM 26) 7 (o25 26), ai cI (aM 27) 5 (o25 27), ai cI (aM 28) 64 (o25 28)] H := hP
      have hD : va_D A [oX6 aM o25 vT, ai cI (aM 1) 70 (o25 1), ai cI (aM 2) 70 (o25 2), ai cI (aM 3) 40 (upd (o25 3) (Int32.toNatClampNeg (1 : Int32)) (((o25 3) (Int32.toNatClampNeg (1 : Int32))) + (1 : Int32))), ai cI (aM 4) 80 (o25 4), ai cZ (aM 5) 2 (o25 5), ai cI (aM 6) 200 (o25 6), ai cI (aM 8) 12 (o25 8), ai cI (aM 10) 12 (o25 10), ai cI (aM 18) 427 (o25 18), ai cI (aM 21) 100 (o25 21), ai cI (aM 23) 100 (o25 23), ai cI (aM 24) 100 (o25 24), ai cI (aM 26) 7 (o25 26), ai cI (aM 27) 5 (o25 27), ai cI (aM 28) 64 (o25 28)] := hD
      refine lv_aload_n hx hb dX6_waits_38 rfl (lv_at hl 0 rfl) ?_
      refine va_get (D := G) (ci := 6) (v := .ref (aM 3)) (C := RX6) (T := TX6) (N := 29) hx hb hts fi_X6_waits_X6 hown hEN.1 hP 0 rfl rfl 2 (by decide) (hts (.fieldLink RX6 16 "HourWellModel" "he" "[I") (List.mem_of_getElem? (i := 2) rfl)) (fun _ h9 => h9) rfl dX6_waits_39 ?_
      refine lv_iconst (v := (1 : Int32)) hx hb dX6_waits_42 k_iconst_1 ?_
      refine va_iald (f := (upd (o25 3) (Int32.toNatClampNeg (1 : Int32)) (((o25 3) (Int32.toNatClampNeg (1 : Int32))) + (1 : Int32)))) hx hb hEN.1 hP 3 0 rfl rfl (inb_in (i := (1 : Int32)) (n := 40) rfl) dX6_waits_43 ?_
      have hres := Option.some.inj h
      subst hres
      exact hRet 44 _ _ _ hP hD hS dX6_waits_44
    · have h := (if_pos c18).symm.trans h
      refine lv_bipush (v := (-2 : Int32)) hx hb dX6_waits_21 k_bipush_n2 ?_
      have hres := Option.some.inj h
      subst hres
      exact hRet 23 _ _ _ hP hD hS dX6_waits_23
abbrev rm_X6_asks : Room := { frames := 2, cells := 0, slots := 0, locals := 46 }
theorem fi_X6_asks_X6 : ∀ w ∈ wsX60, w ∈ wsX6_asks := fun _ h => List.mem_cons_of_mem _ (List.mem_append_right _ h)
theorem hdV_X6_asks : yX6_asks.cls = RX6 ∧ yX6_asks.cls ≠ "java/lang/invoke/MethodHandle" ∧ yX6_asks.cls ≠ "java/lang/invoke/VarHandle" ∧ (parseMethodDescriptor yX6_asks.desc).map (fun d => d.parameters.length) = some 1 := by decide +kernel
set_option maxRecDepth 100000 in
set_option maxHeartbeats 4000000 in
theorem c_X6_asks (l : Launch) (G : va_G) (cI cZ : ClassId) (aM : Nat → Nat) (vT : Int64) (vM : Ob) (x1 : Int32) (res : Int32 × Ob) (h : m_X6_asks vM x1 = some res) : Ct l yX6_asks wsX6_asks rm_X6_asks G cI cZ [.ref (aM 0), .int x1] [oX6 aM vM vT, ai cI (aM 1) 70 (vM 1), ai cI (aM 2) 70 (vM 2), ai cI (aM 3) 40 (vM 3), ai cI (aM 4) 80 (vM 4), ai cZ (aM 5) 2 (vM 5), ai cI (aM 6) 200 (vM 6), ai cI (aM 8) 12 (vM 8), ai cI (aM 10) 12 (vM 10), ai cI (aM 18) 427 (vM 18), ai cI (aM 21) 100 (vM 21), ai cI (aM 23) 100 (vM 23), ai cI (aM 24) 100 (vM 24), ai cI (aM 26) 7 (vM 26), ai cI (aM 27) 5 (vM 27), ai cI (aM 28) 64 (vM 28)] (some (.int res.1)) [oX6 aM res.2 vT, ai cI (aM 1) 70 (res.2 1), ai cI (aM 2) 70 (res.2 2), ai cI (aM 3) 40 (res.2 3), ai cI (aM 4) 80 (res.2 4), ai cZ (aM 5) 2 (res.2 5), ai cI (aM 6) 200 (res.2 6), ai cI (aM 8) 12 (res.2 8), ai cI (aM 10) 12 (res.2 10), ai cI (aM 18) 427 (res.2 18), ai cI (aM 21) 100 (res.2 21), ai cI (aM 23) 100 (res.2 23), ai cI (aM 24) 100 (res.2 24), ai cI (aM 26) 7 (res.2 26), ai cI (aM 27) 5 (res.2 27), ai cI (aM 28) 64 (res.2 28)] := by
  refine Ct.of_i (maxL := 3) (by decide) rfl (Nat.le_of_ble_eq_true rfl) ?_
  intro p e s m below meth c args hx hb hml hown hts A hA hEN hP hD hS Q hRet ls hl
  have hown : s.vm.findClass RX6 = some m.cls := hown
  have hl : lv_has ls 3 [(0, .ref (aM 0)), (1, .int x1)] := hl
  unfold m_X6_asks at h
  refine lv_aload_n hx hb dX6_asks_0 rfl (lv_at hl 0 rfl) ?_
  refine lv_iload_n hx hb dX6_asks_1 rfl (lv_at hl 1 rfl) ?_
  obtain ⟨o2, ho2, h⟩ := bnd_some h
  refine call_V0 (As := [.int x1]) (rest := []) ⟨hx, hb, hml, hown, hts⟩ (c_X6_isHost l G cI cZ aM vT vM x1 o2 ho2) (cwV 1 hts gX6_asks_X6_isHost rfl rfl rfl hdV_X6_isHost ⟨Nat.le_of_ble_eq_true rfl, Nat.le_of_ble_eq_true rfl⟩) hEN hA hP hD hS [0, 1] rfl (by decide) 0 rfl rfl rfl hl.1 rfl (Nat.le_of_ble_eq_true rfl) dX6_asks_2 ⟨Nat.le_of_ble_eq_true rfl, Nat.le_of_ble_eq_true rfl⟩ (fun H locs hP hS => ?_)
  refine lv_if_ne (tgt := 10) hx hb dX6_asks_5 (by decide) (fun c5 => ?_) (fun c5 => ?_)
  · have h := (if_neg c5).symm.trans h
    refine lv_aload_n hx hb dX6_asks_10 rfl (lv_at hl 0 rfl) ?_
    refine lv_iload_n hx hb dX6_asks_11 rfl (lv_at hl 1 rfl) ?_
    refine lv_aload_n hx hb dX6_asks_12 rfl (lv_at hl 0 rfl) ?_
    refine va_get (D := G) (ci := 6) (v := .ref (aM 3)) (C := RX6) (T := TX6) (N := 29) hx hb hts fi_X6_asks_X6 hown hEN.1 hP 0 rfl rfl 2 (by decide) (hts (.fieldLink RX6 16 "HourWellModel" "he" "[I") (List.mem_of_getElem? (i := 1) rfl)) (fun _ h9 => h9) rfl dX6_asks_13 ?_
    refine lv_iconst (v := (0 : Int32)) hx hb dX6_asks_16 k_iconst_0 ?_
    refine va_iald (f := (vM 3)) hx hb hEN.1 hP 3 0 rfl rfl (inb_in (i := (0 : Int32)) (n := 40) rfl) dX6_asks_17 ?_
    refine lv_aload_n hx hb dX6_asks_18 rfl (lv_at hl 0 rfl) ?_
    refine va_get (D := G) (ci := 6) (v := .ref (aM 3)) (C := RX6) (T := TX6) (N := 29) hx hb hts fi_X6_asks_X6 hown hEN.1 hP 0 rfl rfl 2 (by decide) (hts (.fieldLink RX6 16 "HourWellModel" "he" "[I") (List.mem_of_getElem? (i := 1) rfl)) (fun _ h9 => h9) rfl dX6_asks_19 ?_
    refine lv_iconst (v := (2 : Int32)) hx hb dX6_asks_22 k_iconst_2 ?_
    refine va_iald (f := (vM 3)) hx hb hEN.1 hP 3 0 rfl rfl (inb_in (i := (2 : Int32)) (n := 40) rfl) dX6_asks_23 ?_
    obtain ⟨o24, ho24, h⟩ := bnd_some h
    refine call_V0 (As := [.int x1, .int ((vM 3) (Int32.toNatClampNeg (0 : Int32))), .int ((vM 3) (Int32.toNatClampNeg (2 : Int32)))]) (rest := []) ⟨hx, hb, hml, hown, hts⟩ (c_X6_given l G cI cZ aM vT vM x1 ((vM 3) (Int32.toNatClampNeg (0 : Int32))) ((vM 3) (Int32.toNatClampNeg (2 : Int32))) o24 ho24) (cwV 3 hts gX6_asks_X6_given rfl rfl rfl hdV_X6_given ⟨Nat.le_of_ble_eq_true rfl, Nat.le_of_ble_eq_true rfl⟩) hEN hA hP hD hS [0, 1] rfl (by decide) 0 rfl rfl rfl hl.1 rfl (Nat.le_of_ble_eq_true rfl) dX6_asks_24 ⟨Nat.le_of_ble_eq_true rfl, Nat.le_of_ble_eq_true rfl⟩ (fun H locs hP hS => ?_)
    refine lv_istore_n (lv' := [(2, .int o24), (0, .ref (aM 0)), (1, .int x1)]) hx hb dX6_asks_27 rfl hl (by decide) rfl (fun ls hl => ?_)
    refine lv_iload_n hx hb dX6_asks_28 rfl (lv_at hl 0 rfl) ?_
    refine lv_if_ge (tgt := 35) hx hb dX6_asks_29 (by decide) (fun c29 => ?_) (fun c29 => ?_)
    · have h := (if_pos c29).symm.trans h
      refine lv_aload_n hx hb dX6_asks_35 rfl (lv_at hl 1 rfl) ?_
      obtain ⟨o36, ho36, h⟩ := bnd_some h
      refine call_VJ (wr := []) (As := []) (rest := []) ⟨hx, hb, hml, hown, hts⟩ (c_X6_remember l G cI cZ aM vT vM o36 ho36) (cwV 0 hts gX6_asks_X6_remember rfl rfl rfl hdV_X6_remember ⟨Nat.le_of_ble_eq_true rfl, Nat.le_of_ble_eq_true rfl⟩) hEN hA hP hD hS [0, 1, 2, 3, 4, 5, 6, 7, 8, 9, 10, 11, 12, 13, 14, 15] [] rfl (by decide) rfl (by decide) (by decide) 0 rfl rfl rfl hl.1 rfl (Nat.le_of_ble_eq_true rfl) dX6_asks_36 ⟨Nat.le_of_ble_eq_true rfl, Nat.le_of_ble_eq_true rfl⟩ (fun H locs hP hD hS => ?_)
      have hP : va_P G vwCl [oX6 aM o36 vT, ai cI (aM 1) 70 (o36 1), ai cI (aM 2) 70 (o36 2), ai cI (aM 3) 40 (o36 3), ai cI (aM 4) 80 (o36 4), ai cZ (aM 5) 2 (o36 5), ai cI (aM 6) 200 (o36 6), ai cI (aM 8) 12 (o36 8), ai cI (aM 10) 12 (o36 10), ai cI (aM 18) 427 (o36 18), ai cI (aM 21) 100 (o36 21), ai cI (aM 23) 100 (o36 23), ai cI (aM 24) 100 (o36 24), ai cI (aM 26) 7 (o36 26), ai cI (aM 27) 5 (o36 27), ai cI (aM 28) 64 (o36 28)] H := hP
      have hD : va_D A [oX6 aM o36 vT, ai cI (aM 1) 70 (o36 1), ai cI (aM 2) 70 (o36 2), ai cI (aM 3) 40 (o36 3), ai cI (aM 4) 80 (o36 4), ai cZ (aM 5) 2 (o36 5), ai cI (aM 6) 200 (o36 6), ai cI (aM 8) 12 (o36 8), ai cI (aM 10) 12 (o36 10), ai cI (aM 18) 427 (o36 18), ai cI (aM 21) 100 (o36 21), ai cI (aM 23) 100 (o36 23), ai cI (aM 24) 100 (o36 24), ai cI (aM 26) 7 (o36 26), ai cI (aM 27) 5 (o36 27), ai cI (aM 28) 64 (o36 28)] := hD
      refine lv_aload_n hx hb dX6_asks_39 rfl (lv_at hl 1 rfl) ?_
      refine va_get (D := G) (ci := 6) (v := .ref (aM 3)) (C := RX6) (T := TX6) (N := 29) hx hb hts fi_X6_asks_X6 hown hEN.1 hP 0 rfl rfl 2 (by decide) (hts (.fieldLink RX6 16 "HourWellModel" "he" "[I") (List.mem_of_getElem? (i := 1) rfl)) (fun _ h9 => h9) rfl dX6_asks_40 ?_
      refine lv_iconst (v := (2 : Int32)) hx hb dX6_asks_43 k_iconst_2 ?_
      refine lv_iload_n hx hb dX6_asks_44 rfl (lv_at hl 0 rfl) ?_
      refine va_iast (f := (o36 3)) hx hb hEN.1 hP hD hS 3 0 rfl rfl (inb_in (i := (2 : Int32)) (n := 40) rfl) dX6_asks_45 (fun H locs hP hD hS => ?_)
      have hP : va_P G vwCl [oX6 aM o36 vT, ai cI (aM 1) 70 (o36 1), ai cI (aM 2) 70 (o36 2), ai cI (aM 3) 40 (upd (o36 3) (Int32.toNatClampNeg (2 : Int32)) o24), ai cI (aM 4) 80 (o36 4), ai cZ (aM 5) 2 (o36 5), ai cI (aM 6) 200 (o36 6), ai cI (aM 8) 12 (o36 8), ai cI (aM 10) 12 (o36 10), ai cI (aM 18) 427 (o36 18), ai cI (aM 21) 100 (o36 21), ai cI (aM 23) 100 (o36 23), ai cI (aM 24) 100 (o36 24), ai cI (aM 26) 7 (o36 26), ai cI (aM 27) 5 (o36 27), ai cI (aM 28) 64 (o36 28)] H := hP
      have hD : va_D A [oX6 aM o36 vT, ai cI (aM 1) 70 (o36 1), ai cI (aM 2) 70 (o36 2), ai cI (aM 3) 40 (upd (o36 3) (Int32.toNatClampNeg (2 : Int32)) o24), ai cI (aM 4) 80 (o36 4), ai cZ (aM 5) 2 (o36 5), ai cI (aM 6) 200 (o36 6), ai cI (aM 8) 12 (o36 8), ai cI (aM 10) 12 (o36 10), ai cI (aM 18) 427 (o36 18), ai cI (aM 21) 100 (o36 21), ai cI (aM 23) 100 (o36 23), ai cI (aM 24) 100 (o36 24), ai cI (aM 26) 7 (o36 26), ai cI (aM 27) 5 (o36 27), ai cI (aM 28) 64 (o36 28)] := hD
      refine lv_iload_n hx hb dX6_asks_46 rfl (lv_at hl 0 rfl) ?_
      have hres := Option.some.inj h
      subst hres
      exact hRet 47 _ _ _ hP hD hS dX6_asks_47
    · have h := (if_neg c29).symm.trans h
      refine lv_bipush (v := (-2 : Int32)) hx hb dX6_asks_32 k_bipush_n2 ?_
      have hres := Option.some.inj h
      subst hres
      exact hRet 34 _ _ _ hP hD hS dX6_asks_34
  · have h := (if_pos c5).symm.trans h
    refine lv_iconst (v := (-1 : Int32)) hx hb dX6_asks_8 k_iconst_n1 ?_
    have hres := Option.some.inj h
    subst hres
    exact hRet 9 _ _ _ hP hD hS dX6_asks_9
abbrev rm_X6_undo : Room := { frames := 0, cells := 0, slots := 0, locals := 0 }
theorem fi_X6_undo_X6 : ∀ w ∈ wsX60, w ∈ wsX6_undo := fun _ h => List.mem_cons_of_mem _ (List.mem_append_right _ h)
theorem hdV_X6_undo : yX6_undo.cls = RX6 ∧ yX6_undo.cls ≠ "java/lang/invoke/MethodHandle" ∧ yX6_undo.cls ≠ "java/lang/invoke/VarHandle" ∧ (parseMethodDescriptor yX6_undo.desc).map (fun d => d.parameters.length) = some 0 := by decide +kernel
set_option maxRecDepth 100000 in
set_option maxHeartbeats 4000000 in
theorem c_X6_undo (l : Launch) (G : va_G) (cI cZ : ClassId) (aM : Nat → Nat) (vT : Int64) (vM : Ob)  (res : Int32 × Ob) (h : m_X6_undo vM  = some res) : Ct l yX6_undo wsX6_undo rm_X6_undo G cI cZ [.ref (aM 0)] [oX6 aM vM vT, ai cI (aM 1) 70 (vM 1), ai cI (aM 2) 70 (vM 2), ai cI (aM 3) 40 (vM 3), ai cI (aM 4) 80 (vM 4), ai cZ (aM 5) 2 (vM 5), ai cI (aM 6) 200 (vM 6), ai cI (aM 8) 12 (vM 8), ai cI (aM 10) 12 (vM 10), ai cI (aM 18) 427 (vM 18), ai cI (aM 21) 100 (vM 21), ai cI (aM 23) 100 (vM 23), ai cI (aM 24) 100 (vM 24), ai cI (aM 26) 7 (vM 26), ai cI (aM 27) 5 (vM 27), ai cI (aM 28) 64 (vM 28)] (some (.int res.1)) [oX6 aM res.2 vT, ai cI (aM 1) 70 (res.2 1), ai cI (aM 2) 70 (res.2 2), ai cI (aM 3) 40 (res.2 3), ai cI (aM 4) 80 (res.2 4), ai cZ (aM 5) 2 (res.2 5), ai cI (aM 6) 200 (res.2 6), ai cI (aM 8) 12 (res.2 8), ai cI (aM 10) 12 (res.2 10), ai cI (aM 18) 427 (res.2 18), ai cI (aM 21) 100 (res.2 21), ai cI (aM 23) 100 (res.2 23), ai cI (aM 24) 100 (res.2 24), ai cI (aM 26) 7 (res.2 26), ai cI (aM 27) 5 (res.2 27), ai cI (aM 28) 64 (res.2 28)] := by
  refine Ct.of_i (maxL := 3) (by decide) rfl (Nat.le_of_ble_eq_true rfl) ?_
  intro p e s m below meth c args hx hb hml hown hts A hA hEN hP hD hS Q hRet ls hl
  have hown : s.vm.findClass RX6 = some m.cls := hown
  have hl : lv_has ls 3 [(0, .ref (aM 0))] := hl
  have L35 : ∀ (out : Ob), (∀ ex : Ob, out = ex → ∀ (H : Heap) (locs : List Loc) (ls : Array Slot), va_P G vwCl [oX6 aM ex vT, ai cI (aM 1) 70 (ex 1), ai cI (aM 2) 70 (ex 2), ai cI (aM 3) 40 (ex 3), ai cI (aM 4) 80 (ex 4), ai cZ (aM 5) 2 (ex 5), ai cI (aM 6) 200 (ex 6), ai cI (aM 8) 12 (ex 8), ai cI (aM 10) 12 (ex 10), ai cI (aM 18) 427 (ex 18), ai cI (aM 21) 100 (ex 21), ai cI (aM 23) 100 (ex 23), ai cI (aM 24) 100 (ex 24), ai cI (aM 26) 7 (ex 26), ai cI (aM 27) 5 (ex 27), ai cI (aM 28) 64 (ex 28)] H → va_D A [oX6 aM ex vT, ai cI (aM 1) 70 (ex 1), ai cI (aM 2) 70 (ex 2), ai cI (aM 3) 40 (ex 3), ai cI (aM 4) 80 (ex 4), ai cZ (aM 5) 2 (ex 5), ai cI (aM 6) 200 (ex 6), ai cI (aM 8) 12 (ex 8), ai cI (aM 10) 12 (ex 10), ai cI (aM 18) 427 (ex 18), ai cI (aM 21) 100 (ex 21), ai cI (aM 23) 100 (ex 23), ai cI (aM 24) 100 (ex 24), ai cI (aM 26) 7 (ex 26), ai cI (aM 27) 5 (ex 27), ai cI (aM 28) 64 (ex 28)] → va_S A s.heap H locs → lv_has ls 3 [(0, .ref (aM 0))] → W p l e rm_X6_undo s m args below meth c H locs 0 0 Q (F0 m 60 ls [])) → ∀ (n : Nat) (vM : Ob) (x1 : Int32) (x2 : Int32), m_X6_undo_L35  n vM x1 x2 = some out → ∀ (H : Heap) (locs : List Loc) (ls : Array Slot), va_P G vwCl [oX6 aM vM vT, ai cI (aM 1) 70 (vM 1), ai cI (aM 2) 70 (vM 2), ai cI (aM 3) 40 (vM 3), ai cI (aM 4) 80 (vM 4), ai cZ (aM 5) 2 (vM 5), ai cI (aM 6) 200 (vM 6), ai cI (aM 8) 12 (vM 8), ai cI (aM 10) 12 (vM 10), ai cI (aM 18) 427 (vM 18), ai cI (aM 21) 100 (vM 21), ai cI (aM 23) 100 (vM 23), ai cI (aM 24) 100 (vM 24), ai cI (aM 26) 7 (vM 26), ai cI (aM 27) 5 (vM 27), ai cI (aM 28) 64 (vM 28)] H → va_D A [oX6 aM vM vT, ai cI (aM 1) 70 (vM 1), ai cI (aM 2) 70 (vM 2), ai cI (aM 3) 40 (vM 3), ai cI (aM 4) 80 (vM 4), ai cZ (aM 5) 2 (vM 5), ai cI (aM 6) 200 (vM 6), ai cI (aM 8) 12 (vM 8), ai cI (aM 10) 12 (vM 10), ai cI (aM 18) 427 (vM 18), ai cI (aM 21) 100 (vM 21), ai cI (aM 23) 100 (vM 23), ai cI (aM 24) 100 (vM 24), ai cI (aM 26) 7 (vM 26), ai cI (aM 27) 5 (vM 27), ai cI (aM 28) 64 (vM 28)] → va_S A s.heap H locs → lv_has ls 3 [(0, .ref (aM 0)), (1, .int x1), (2, .int x2)] → W p l e rm_X6_undo s m args below meth c H locs 0 0 Q (F0 m 35 ls []) := by
    intro out hKx
    intro n
    induction n with
    | zero => intro vM x1 x2 h; exact nomatch (show (none : Option (Ob)) = some out from h)
    | succ n hrc =>
      intro vM x1 x2 h H locs ls hP hD hS hl
      have h : m_X6_undo_L35B  (m_X6_undo_L35  n) vM x1 x2 = some out := h
      generalize m_X6_undo_L35  n = rc at h hrc
      unfold m_X6_undo_L35B at h
      refine lv_iload_n hx hb dX6_undo_35 rfl (lv_at hl 2 rfl) ?_
      refine lv_iconst (v := (3 : Int32)) hx hb dX6_undo_36 k_iconst_3 ?_
      refine lv_icmp_ge (tgt := 60) hx hb dX6_undo_37 (by decide) (fun c37 => ?_) (fun c37 => ?_)
      · have h := (if_pos c37).symm.trans h
        exact hKx _ (Option.some.inj h).symm _ _ _ hP hD hS (lv_sub hl [0] rfl)
      · have h := (if_neg c37).symm.trans h
        refine lv_aload_n hx hb dX6_undo_40 rfl (lv_at hl 0 rfl) ?_
        refine va_get (D := G) (ci := 6) (v := .ref (aM 3)) (C := RX6) (T := TX6) (N := 29) hx hb hts fi_X6_undo_X6 hown hEN.1 hP 0 rfl rfl 2 (by decide) (hts (.fieldLink RX6 16 "HourWellModel" "he" "[I") (List.mem_of_getElem? (i := 1) rfl)) (fun _ h9 => h9) rfl dX6_undo_41 ?_
        refine lv_iload_n hx hb dX6_undo_44 rfl (lv_at hl 2 rfl) ?_
        refine lv_aload_n hx hb dX6_undo_45 rfl (lv_at hl 0 rfl) ?_
        refine va_get (D := G) (ci := 6) (v := .ref (aM 3)) (C := RX6) (T := TX6) (N := 29) hx hb hts fi_X6_undo_X6 hown hEN.1 hP 0 rfl rfl 2 (by decide) (hts (.fieldLink RX6 16 "HourWellModel" "he" "[I") (List.mem_of_getElem? (i := 1) rfl)) (fun _ h9 => h9) rfl dX6_undo_46 ?_
        refine lv_iload_n hx hb dX6_undo_49 rfl (lv_at hl 1 rfl) ?_
        refine lv_iload_n hx hb dX6_undo_50 rfl (lv_at hl 2 rfl) ?_
        refine lv_iadd hx hb dX6_undo_51 ?_
        obtain ⟨hg52, h⟩ := grd_some h
        refine va_iald (f := (vM 3)) hx hb hEN.1 hP 3 0 rfl rfl (inb_in hg52) dX6_undo_52 ?_
        obtain ⟨hg53, h⟩ := grd_some h
        refine va_iast (f := (vM 3)) hx hb hEN.1 hP hD hS 3 0 rfl rfl (inb_in hg53) dX6_undo_53 (fun H locs hP hD hS => ?_)
        have hP : va_P G vwCl [oX6 aM vM vT, ai cI (aM 1) 70 (vM 1), ai cI (aM 2) 70 (vM 2), ai cI (aM 3) 40 (upd (vM 3) (Int32.toNatClampNeg x2) ((vM 3) (Int32.toNatClampNeg (x1 + x2)))), ai cI (aM 4) 80 (vM 4), ai cZ (aM 5) 2 (vM 5), ai cI (aM 6) 200 (vM 6), ai cI (aM 8) 12 (vM 8), ai cI (aM 10) 12 (vM 10), ai cI (aM 18) 427 (vM 18), ai cI (aM 21) 100 (vM 21), ai cI (aM 23) 100 (vM 23), ai cI (aM 24) 100 (vM 24), ai cI (aM 26) 7 (vM 26), ai cI (aM 27) 5 (vM 27), ai cI (aM 28) 64 (vM 28)] H := hP
        have hD : va_D A [oX6 aM vM vT, ai cI (aM 1) 70 (vM 1), ai cI (aM 2) 70 (vM 2), ai cI (aM 3) 40 (upd (vM 3) (Int32.toNatClampNeg x2) ((vM 3) (Int32.toNatClampNeg (x1 + x2)))), ai cI (aM 4) 80 (vM 4), ai cZ (aM 5) 2 (vM 5), ai cI (aM 6) 200 (vM 6), ai cI (aM 8) 12 (vM 8), ai cI (aM 10) 12 (vM 10), ai cI (aM 18) 427 (vM 18), ai cI (aM 21) 100 (vM 21), ai cI (aM 23) 100 (vM 23), ai cI (aM 24) 100 (vM 24), ai cI (aM 26) 7 (vM 26), ai cI (aM 27) 5 (vM 27), ai cI (aM 28) 64 (vM 28)] := hD
        refine lv_iinc (v := (x2 + (1 : Int32))) (lv' := [(2, .int (x2 + (1 : Int32))), (0, .ref (aM 0)), (1, .int x1)]) hx hb dX6_undo_54 hl (k := 2) rfl (congrArg (fun z => x2 + z) k_iconst_1) (by decide) rfl (fun ls hl => ?_)
        refine lv_goto (tgt := 35) hx hb dX6_undo_57 (by decide) ?_
        exact hrc (st vM 3 (Int32.toNatClampNeg x2) ((vM 3) (Int32.toNatClampNeg (x1 + x2)))) x1 (x2 + (1 : Int32)) h _ _ _ hP hD hS (lv_sub hl [1, 2, 0] rfl)
  unfold m_X6_undo at h
  refine lv_aload_n hx hb dX6_undo_0 rfl (lv_at hl 0 rfl) ?_
  refine va_get (D := G) (ci := 6) (v := .ref (aM 3)) (C := RX6) (T := TX6) (N := 29) hx hb hts fi_X6_undo_X6 hown hEN.1 hP 0 rfl rfl 2 (by decide) (hts (.fieldLink RX6 16 "HourWellModel" "he" "[I") (List.mem_of_getElem? (i := 1) rfl)) (fun _ h9 => h9) rfl dX6_undo_1 ?_
  refine lv_iconst (v := (3 : Int32)) hx hb dX6_undo_4 k_iconst_3 ?_
  refine va_iald (f := (vM 3)) hx hb hEN.1 hP 3 0 rfl rfl (inb_in (i := (3 : Int32)) (n := 40) rfl) dX6_undo_5 ?_
  refine lv_if_ne (tgt := 12) hx hb dX6_undo_6 (by decide) (fun c6 => ?_) (fun c6 => ?_)
  · have h := (if_neg c6).symm.trans h
    refine lv_aload_n hx hb dX6_undo_12 rfl (lv_at hl 0 rfl) ?_
    refine va_get (D := G) (ci := 6) (v := .ref (aM 3)) (C := RX6) (T := TX6) (N := 29) hx hb hts fi_X6_undo_X6 hown hEN.1 hP 0 rfl rfl 2 (by decide) (hts (.fieldLink RX6 16 "HourWellModel" "he" "[I") (List.mem_of_getElem? (i := 1) rfl)) (fun _ h9 => h9) rfl dX6_undo_13 ?_
    refine lv_iconst (v := (3 : Int32)) hx hb dX6_undo_16 k_iconst_3 ?_
    refine lv_dup2_11 hx hb dX6_undo_17 rfl rfl ?_
    refine va_iald (f := (vM 3)) hx hb hEN.1 hP 3 0 rfl rfl (inb_in (i := (3 : Int32)) (n := 40) rfl) dX6_undo_18 ?_
    refine lv_iconst (v := (1 : Int32)) hx hb dX6_undo_19 k_iconst_1 ?_
    refine lv_isub hx hb dX6_undo_20 ?_
    refine va_iast (f := (vM 3)) hx hb hEN.1 hP hD hS 3 0 rfl rfl (inb_in (i := (3 : Int32)) (n := 40) rfl) dX6_undo_21 (fun H locs hP hD hS => ?_)
    have hP : va_P G vwCl [oX6 aM vM vT, ai cI (aM 1) 70 (vM 1), ai cI (aM 2) 70 (vM 2), ai cI (aM 3) 40 (upd (vM 3) (Int32.toNatClampNeg (3 : Int32)) (((vM 3) (Int32.toNatClampNeg (3 : Int32))) - (1 : Int32))), ai cI (aM 4) 80 (vM 4), ai cZ (aM 5) 2 (vM 5), ai cI (aM 6) 200 (vM 6), ai cI (aM 8) 12 (vM 8), ai cI (aM 10) 12 (vM 10), ai cI (aM 18) 427 (vM 18), ai cI (aM 21) 100 (vM 21), ai cI (aM 23) 100 (vM 23), ai cI (aM 24) 100 (vM 24), ai cI (aM 26) 7 (vM 26), ai cI (aM 27) 5 (vM 27), ai cI (aM 28) 64 (vM 28)] H := hP
    have hD : va_D A [oX6 aM vM vT, ai cI (aM 1) 70 (vM 1), ai cI (aM 2) 70 (vM 2), ai cI (aM 3) 40 (upd (vM 3) (Int32.toNatClampNeg (3 : Int32)) (((vM 3) (Int32.toNatClampNeg (3 : Int32))) - (1 : Int32))), ai cI (aM 4) 80 (vM 4), ai cZ (aM 5) 2 (vM 5), ai cI (aM 6) 200 (vM 6), ai cI (aM 8) 12 (vM 8), ai cI (aM 10) 12 (vM 10), ai cI (aM 18) 427 (vM 18), ai cI (aM 21) 100 (vM 21), ai cI (aM 23) 100 (vM 23), ai cI (aM 24) 100 (vM 24), ai cI (aM 26) 7 (vM 26), ai cI (aM 27) 5 (vM 27), ai cI (aM 28) 64 (vM 28)] := hD
    refine lv_iconst (v := (4 : Int32)) hx hb dX6_undo_22 k_iconst_4 ?_
    refine lv_iconst (v := (3 : Int32)) hx hb dX6_undo_23 k_iconst_3 ?_
    refine lv_aload_n hx hb dX6_undo_24 rfl (lv_at hl 0 rfl) ?_
    refine va_get (D := G) (ci := 6) (v := .ref (aM 3)) (C := RX6) (T := TX6) (N := 29) hx hb hts fi_X6_undo_X6 hown hEN.1 hP 0 rfl rfl 2 (by decide) (hts (.fieldLink RX6 16 "HourWellModel" "he" "[I") (List.mem_of_getElem? (i := 1) rfl)) (fun _ h9 => h9) rfl dX6_undo_25 ?_
    refine lv_iconst (v := (3 : Int32)) hx hb dX6_undo_28 k_iconst_3 ?_
    refine va_iald (f := (upd (vM 3) (Int32.toNatClampNeg (3 : Int32)) (((vM 3) (Int32.toNatClampNeg (3 : Int32))) - (1 : Int32)))) hx hb hEN.1 hP 3 0 rfl rfl (inb_in (i := (3 : Int32)) (n := 40) rfl) dX6_undo_29 ?_
    refine lv_imul hx hb dX6_undo_30 ?_
    refine lv_iadd hx hb dX6_undo_31 ?_
    refine lv_istore_n (lv' := [(1, .int ((4 : Int32) + ((3 : Int32) * ((upd (vM 3) (Int32.toNatClampNeg (3 : Int32)) (((vM 3) (Int32.toNatClampNeg (3 : Int32))) - (1 : Int32))) (Int32.toNatClampNeg (3 : Int32)))))), (0, .ref (aM 0))]) hx hb dX6_undo_32 rfl hl (by decide) rfl (fun ls hl => ?_)
    refine lv_iconst (v := (0 : Int32)) hx hb dX6_undo_33 k_iconst_0 ?_
    refine lv_istore_n (lv' := [(2, .int (0 : Int32)), (1, .int ((4 : Int32) + ((3 : Int32) * ((upd (vM 3) (Int32.toNatClampNeg (3 : Int32)) (((vM 3) (Int32.toNatClampNeg (3 : Int32))) - (1 : Int32))) (Int32.toNatClampNeg (3 : Int32)))))), (0, .ref (aM 0))]) hx hb dX6_undo_34 rfl hl (by decide) rfl (fun ls hl => ?_)
    obtain ⟨o35_1, ho35_1, h⟩ := bnd_some h
    refine L35 o35_1 (fun o35_1e er H locs ls hP hD hS hl => ?_) FU (st vM 3 (Int32.toNatClampNeg (3 : Int32)) (((vM 3) (Int32.toNatClampNeg (3 : Int32))) - (1 : Int32))) ((4 : Int32) + ((3 : Int32) * ((upd (vM 3) (Int32.toNatClampNeg (3 : Int32)) (((vM 3) (Int32.toNatClampNeg (3 : Int32))) - (1 : Int32))) (Int32.toNatClampNeg (3 : Int32))))) (0 : Int32) ho35_1 _ _ _ hP hD hS (lv_sub hl [2, 1, 0] rfl)
    subst er
    refine lv_aload_n hx hb dX6_undo_60 rfl (lv_at hl 0 rfl) ?_
    refine va_get (D := G) (ci := 6) (v := .ref (aM 3)) (C := RX6) (T := TX6) (N := 29) hx hb hts fi_X6_undo_X6 hown hEN.1 hP 0 rfl rfl 2 (by decide) (hts (.fieldLink RX6 16 "HourWellModel" "he" "[I") (List.mem_of_getElem? (i := 1) rfl)) (fun _ h9 => h9) rfl dX6_undo_61 ?_
    refine lv_iconst (v := (3 : Int32)) hx hb dX6_undo_64 k_iconst_3 ?_
    refine va_iald (f := (o35_1 3)) hx hb hEN.1 hP 3 0 rfl rfl (inb_in (i := (3 : Int32)) (n := 40) rfl) dX6_undo_65 ?_
    have hres := Option.some.inj h
    subst hres
    exact hRet 66 _ _ _ hP hD hS dX6_undo_66
  · have h := (if_pos c6).symm.trans h
    refine lv_bipush (v := (-2 : Int32)) hx hb dX6_undo_9 k_bipush_n2 ?_
    have hres := Option.some.inj h
    subst hres
    exact hRet 11 _ _ _ hP hD hS dX6_undo_11
abbrev rm_X6_roadsNow : Room := { frames := 2, cells := 0, slots := 0, locals := 48 }
theorem fi_X6_roadsNow_X6 : ∀ w ∈ wsX60, w ∈ wsX6_roadsNow := fun _ h => List.mem_cons_of_mem _ (List.mem_append_right _ h)
theorem hdV_X6_roadsNow : yX6_roadsNow.cls = RX6 ∧ yX6_roadsNow.cls ≠ "java/lang/invoke/MethodHandle" ∧ yX6_roadsNow.cls ≠ "java/lang/invoke/VarHandle" ∧ (parseMethodDescriptor yX6_roadsNow.desc).map (fun d => d.parameters.length) = some 0 := by decide +kernel
set_option maxRecDepth 100000 in
set_option maxHeartbeats 4000000 in
theorem c_X6_roadsNow (l : Launch) (G : va_G) (cI cZ : ClassId) (aM : Nat → Nat) (vT : Int64) (vM : Ob)  (res : Int32) (h : m_X6_roadsNow vM  = some res) : Ct l yX6_roadsNow wsX6_roadsNow rm_X6_roadsNow G cI cZ [.ref (aM 0)] [oX6 aM vM vT, ai cI (aM 1) 70 (vM 1), ai cI (aM 3) 40 (vM 3)] (some (.int res)) [oX6 aM vM vT, ai cI (aM 1) 70 (vM 1), ai cI (aM 3) 40 (vM 3)] := by
  refine Ct.of_i (maxL := 4) (by decide) rfl (Nat.le_of_ble_eq_true rfl) ?_
  intro p e s m below meth c args hx hb hml hown hts A hA hEN hP hD hS Q hRet ls hl
  have hown : s.vm.findClass RX6 = some m.cls := hown
  have hl : lv_has ls 4 [(0, .ref (aM 0))] := hl
  have L4 : ∀ (out : Int32), (∀ ex : Int32, out = ex → ∀ (H : Heap) (locs : List Loc) (ls : Array Slot), va_P G vwCl [oX6 aM vM vT, ai cI (aM 1) 70 (vM 1), ai cI (aM 3) 40 (vM 3)] H → va_D A [oX6 aM vM vT, ai cI (aM 1) 70 (vM 1), ai cI (aM 3) 40 (vM 3)] → va_S A s.heap H locs → lv_has ls 4 [(1, .int ex)] → W p l e rm_X6_roadsNow s m args below meth c H locs 0 0 Q (F0 m 75 ls [])) → ∀ (n : Nat) (x1 : Int32) (x2 : Int32), m_X6_roadsNow_L4 vM n x1 x2 = some out → ∀ (H : Heap) (locs : List Loc) (ls : Array Slot), va_P G vwCl [oX6 aM vM vT, ai cI (aM 1) 70 (vM 1), ai cI (aM 3) 40 (vM 3)] H → va_D A [oX6 aM vM vT, ai cI (aM 1) 70 (vM 1), ai cI (aM 3) 40 (vM 3)] → va_S A s.heap H locs → lv_has ls 4 [(0, .ref (aM 0)), (1, .int x1), (2, .int x2)] → W p l e rm_X6_roadsNow s m args below meth c H locs 0 0 Q (F0 m 4 ls []) := by
    intro out hKx
    have j67 : ∀ (rc : Int32 → Int32 → Option (Int32)), (∀ (x1 : Int32) (x2 : Int32), rc x1 x2 = some out → ∀ (H : Heap) (locs : List Loc) (ls : Array Slot), va_P G vwCl [oX6 aM vM vT, ai cI (aM 1) 70 (vM 1), ai cI (aM 3) 40 (vM 3)] H → va_D A [oX6 aM vM vT, ai cI (aM 1) 70 (vM 1), ai cI (aM 3) 40 (vM 3)] → va_S A s.heap H locs → lv_has ls 4 [(0, .ref (aM 0)), (1, .int x1), (2, .int x2)] → W p l e rm_X6_roadsNow s m args below meth c H locs 0 0 Q (F0 m 4 ls [])) → ∀ (x2 : Int32) (s0 : Int32) (s1 : Int32), m_X6_roadsNow_j67 vM rc x2 s0 s1 = some out → ∀ (H : Heap) (locs : List Loc) (ls : Array Slot), va_P G vwCl [oX6 aM vM vT, ai cI (aM 1) 70 (vM 1), ai cI (aM 3) 40 (vM 3)] H → va_D A [oX6 aM vM vT, ai cI (aM 1) 70 (vM 1), ai cI (aM 3) 40 (vM 3)] → va_S A s.heap H locs → lv_has ls 4 [(0, .ref (aM 0)), (2, .int x2)] → W p l e rm_X6_roadsNow s m args below meth c H locs 0 0 Q (F0 m 67 ls [.int s1, .int s0]) := by
      intro rc hrc x2 s0 s1 h H locs ls hP hD hS hl
      unfold m_X6_roadsNow_j67 at h
      refine lv_ior hx hb dX6_roadsNow_67 ?_
      refine lv_istore_n (lv' := [(1, .int (s0 ||| s1)), (0, .ref (aM 0)), (2, .int x2)]) hx hb dX6_roadsNow_68 rfl hl (by decide) rfl (fun ls hl => ?_)
      refine lv_iinc (v := (x2 + (1 : Int32))) (lv' := [(2, .int (x2 + (1 : Int32))), (1, .int (s0 ||| s1)), (0, .ref (aM 0))]) hx hb dX6_roadsNow_69 hl (k := 2) rfl (congrArg (fun z => x2 + z) k_iconst_1) (by decide) rfl (fun ls hl => ?_)
      refine lv_goto (tgt := 4) hx hb dX6_roadsNow_72 (by decide) ?_
      exact hrc (s0 ||| s1) (x2 + (1 : Int32)) h _ _ _ hP hD hS (lv_sub hl [2, 1, 0] rfl)
    have j60 : ∀ (rc : Int32 → Int32 → Option (Int32)), (∀ (x1 : Int32) (x2 : Int32), rc x1 x2 = some out → ∀ (H : Heap) (locs : List Loc) (ls : Array Slot), va_P G vwCl [oX6 aM vM vT, ai cI (aM 1) 70 (vM 1), ai cI (aM 3) 40 (vM 3)] H → va_D A [oX6 aM vM vT, ai cI (aM 1) 70 (vM 1), ai cI (aM 3) 40 (vM 3)] → va_S A s.heap H locs → lv_has ls 4 [(0, .ref (aM 0)), (1, .int x1), (2, .int x2)] → W p l e rm_X6_roadsNow s m args below meth c H locs 0 0 Q (F0 m 4 ls [])) → ∀ (x2 : Int32) (s0 : Int32), m_X6_roadsNow_j60 vM rc x2 s0 = some out → ∀ (H : Heap) (locs : List Loc) (ls : Array Slot), va_P G vwCl [oX6 aM vM vT, ai cI (aM 1) 70 (vM 1), ai cI (aM 3) 40 (vM 3)] H → va_D A [oX6 aM vM vT, ai cI (aM 1) 70 (vM 1), ai cI (aM 3) 40 (vM 3)] → va_S A s.heap H locs → lv_has ls 4 [(0, .ref (aM 0)), (2, .int x2)] → W p l e rm_X6_roadsNow s m args below meth c H locs 0 0 Q (F0 m 60 ls [.int s0]) := by
      intro rc hrc x2 s0 h H locs ls hP hD hS hl
      unfold m_X6_roadsNow_j60 at h
      refine lv_iconst (v := (0 : Int32)) hx hb dX6_roadsNow_60 k_iconst_0 ?_
      refine lv_goto (tgt := 67) hx hb dX6_roadsNow_61 (by decide) ?_
      exact j67 rc hrc x2 s0 (0 : Int32) h _ _ _ hP hD hS (lv_sub hl [0, 1] rfl)
    intro n
    induction n with
    | zero => intro x1 x2 h; exact nomatch (show (none : Option (Int32)) = some out from h)
    | succ n hrc =>
      intro x1 x2 h H locs ls hP hD hS hl
      have h : m_X6_roadsNow_L4B vM (m_X6_roadsNow_L4 vM n) x1 x2 = some out := h
      generalize m_X6_roadsNow_L4 vM n = rc at h hrc
      unfold m_X6_roadsNow_L4B at h
      refine lv_iload_n hx hb dX6_roadsNow_4 rfl (lv_at hl 2 rfl) ?_
      refine lv_aload_n hx hb dX6_roadsNow_5 rfl (lv_at hl 0 rfl) ?_
      refine va_get (D := G) (ci := 6) (v := .ref (aM 1)) (C := RX6) (T := TX6) (N := 29) hx hb hts fi_X6_roadsNow_X6 hown hEN.1 hP 0 rfl rfl 0 (by decide) (hts (.fieldLink RX6 7 "HourWellModel" "tale" "[I") (List.mem_of_getElem? (i := 1) rfl)) (fun _ h9 => h9) rfl dX6_roadsNow_6 ?_
      refine lv_iconst (v := (1 : Int32)) hx hb dX6_roadsNow_9 k_iconst_1 ?_
      refine va_iald (f := (vM 1)) hx hb hEN.1 hP 1 0 rfl rfl (inb_in (i := (1 : Int32)) (n := 70) rfl) dX6_roadsNow_10 ?_
      refine lv_icmp_ge (tgt := 75) hx hb dX6_roadsNow_11 (by decide) (fun c11 => ?_) (fun c11 => ?_)
      · have h := (if_pos c11).symm.trans h
        exact hKx _ (Option.some.inj h).symm _ _ _ hP hD hS (lv_sub hl [1] rfl)
      · have h := (if_neg c11).symm.trans h
        refine lv_aload_n hx hb dX6_roadsNow_14 rfl (lv_at hl 0 rfl) ?_
        refine va_get (D := G) (ci := 6) (v := .ref (aM 3)) (C := RX6) (T := TX6) (N := 29) hx hb hts fi_X6_roadsNow_X6 hown hEN.1 hP 0 rfl rfl 2 (by decide) (hts (.fieldLink RX6 16 "HourWellModel" "he" "[I") (List.mem_of_getElem? (i := 2) rfl)) (fun _ h9 => h9) rfl dX6_roadsNow_15 ?_
        refine lv_iconst (v := (1 : Int32)) hx hb dX6_roadsNow_18 k_iconst_1 ?_
        refine va_iald (f := (vM 3)) hx hb hEN.1 hP 2 0 rfl rfl (inb_in (i := (1 : Int32)) (n := 40) rfl) dX6_roadsNow_19 ?_
        refine lv_aload_n hx hb dX6_roadsNow_20 rfl (lv_at hl 0 rfl) ?_
        refine va_get (D := G) (ci := 6) (v := .ref (aM 1)) (C := RX6) (T := TX6) (N := 29) hx hb hts fi_X6_roadsNow_X6 hown hEN.1 hP 0 rfl rfl 0 (by decide) (hts (.fieldLink RX6 7 "HourWellModel" "tale" "[I") (List.mem_of_getElem? (i := 1) rfl)) (fun _ h9 => h9) rfl dX6_roadsNow_21 ?_
        refine lv_bipush (v := (43 : Int32)) hx hb dX6_roadsNow_24 k_bipush_43 ?_
        refine lv_iload_n hx hb dX6_roadsNow_26 rfl (lv_at hl 2 rfl) ?_
        refine lv_iadd hx hb dX6_roadsNow_27 ?_
        obtain ⟨hg28, h⟩ := grd_some h
        refine va_iald (f := (vM 1)) hx hb hEN.1 hP 1 0 rfl rfl (inb_in hg28) dX6_roadsNow_28 ?_
        refine lv_iadd hx hb dX6_roadsNow_29 ?_
        refine lv_istore_n (lv' := [(3, .int (((vM 3) (Int32.toNatClampNeg (1 : Int32))) + ((vM 1) (Int32.toNatClampNeg ((43 : Int32) + x2))))), (0, .ref (aM 0)), (1, .int x1), (2, .int x2)]) hx hb dX6_roadsNow_30 rfl hl (by decide) rfl (fun ls hl => ?_)
        refine lv_iload_n hx hb dX6_roadsNow_31 rfl (lv_at hl 2 rfl) ?_
        refine lv_iload_n hx hb dX6_roadsNow_32 rfl (lv_at hl 0 rfl) ?_
        refine lv_sipush (v := (9999 : Int32)) hx hb dX6_roadsNow_33 k_sipush_9999 ?_
        refine lv_icmp_gt (tgt := 60) hx hb dX6_roadsNow_36 (by decide) (fun c36 => ?_) (fun c36 => ?_)
        · have h := (if_pos c36).symm.trans h
          exact j60 rc hrc x2 x1 h _ _ _ hP hD hS (lv_sub hl [1, 3] rfl)
        · have h := (if_neg c36).symm.trans h
          refine lv_aload_n hx hb dX6_roadsNow_39 rfl (lv_at hl 1 rfl) ?_
          refine lv_iload_n hx hb dX6_roadsNow_40 rfl (lv_at hl 3 rfl) ?_
          refine lv_aload_n hx hb dX6_roadsNow_41 rfl (lv_at hl 1 rfl) ?_
          refine va_get (D := G) (ci := 6) (v := .ref (aM 3)) (C := RX6) (T := TX6) (N := 29) hx hb hts fi_X6_roadsNow_X6 hown hEN.1 hP 0 rfl rfl 2 (by decide) (hts (.fieldLink RX6 16 "HourWellModel" "he" "[I") (List.mem_of_getElem? (i := 2) rfl)) (fun _ h9 => h9) rfl dX6_roadsNow_42 ?_
          refine lv_iconst (v := (0 : Int32)) hx hb dX6_roadsNow_45 k_iconst_0 ?_
          refine va_iald (f := (vM 3)) hx hb hEN.1 hP 2 0 rfl rfl (inb_in (i := (0 : Int32)) (n := 40) rfl) dX6_roadsNow_46 ?_
          refine lv_iload_n hx hb dX6_roadsNow_47 rfl (lv_at hl 0 rfl) ?_
          refine lv_aload_n hx hb dX6_roadsNow_48 rfl (lv_at hl 1 rfl) ?_
          refine va_get (D := G) (ci := 6) (v := .ref (aM 3)) (C := RX6) (T := TX6) (N := 29) hx hb hts fi_X6_roadsNow_X6 hown hEN.1 hP 0 rfl rfl 2 (by decide) (hts (.fieldLink RX6 16 "HourWellModel" "he" "[I") (List.mem_of_getElem? (i := 2) rfl)) (fun _ h9 => h9) rfl dX6_roadsNow_49 ?_
          refine lv_iconst (v := (2 : Int32)) hx hb dX6_roadsNow_52 k_iconst_2 ?_
          refine va_iald (f := (vM 3)) hx hb hEN.1 hP 2 0 rfl rfl (inb_in (i := (2 : Int32)) (n := 40) rfl) dX6_roadsNow_53 ?_
          obtain ⟨o54, ho54, h⟩ := bnd_some h
          refine call_V0 (As := [.int x2, .int ((vM 3) (Int32.toNatClampNeg (0 : Int32))), .int (((vM 3) (Int32.toNatClampNeg (1 : Int32))) + ((vM 1) (Int32.toNatClampNeg ((43 : Int32) + x2)))), .int ((vM 3) (Int32.toNatClampNeg (2 : Int32)))]) (rest := [.int x1]) ⟨hx, hb, hml, hown, hts⟩ (c_X6_enters l G cI cZ aM vT vM x2 ((vM 3) (Int32.toNatClampNeg (0 : Int32))) (((vM 3) (Int32.toNatClampNeg (1 : Int32))) + ((vM 1) (Int32.toNatClampNeg ((43 : Int32) + x2)))) ((vM 3) (Int32.toNatClampNeg (2 : Int32))) o54 ho54) (cwV 4 hts gX6_roadsNow_X6_enters rfl rfl rfl hdV_X6_enters ⟨Nat.le_of_ble_eq_true rfl, Nat.le_of_ble_eq_true rfl⟩) hEN hA hP hD hS [0, 1] rfl (by decide) 0 rfl rfl rfl hl.1 rfl (Nat.le_of_ble_eq_true rfl) dX6_roadsNow_54 ⟨Nat.le_of_ble_eq_true rfl, Nat.le_of_ble_eq_true rfl⟩ (fun H locs hP hS => ?_)
          refine lv_if_ge (tgt := 64) hx hb dX6_roadsNow_57 (by decide) (fun c57 => ?_) (fun c57 => ?_)
          · have h := (if_pos c57).symm.trans h
            refine lv_iconst (v := (1 : Int32)) hx hb dX6_roadsNow_64 k_iconst_1 ?_
            refine lv_iload_n hx hb dX6_roadsNow_65 rfl (lv_at hl 3 rfl) ?_
            refine lv_ishl hx hb dX6_roadsNow_66 ?_
            exact j67 rc hrc x2 x1 ((1 : Int32) <<< (x2 &&& 31)) h _ _ _ hP hD hS (lv_sub hl [1, 3] rfl)
          · have h := (if_neg c57).symm.trans h
            exact j60 rc hrc x2 x1 h _ _ _ hP hD hS (lv_sub hl [1, 3] rfl)
  unfold m_X6_roadsNow at h
  refine lv_iconst (v := (0 : Int32)) hx hb dX6_roadsNow_0 k_iconst_0 ?_
  refine lv_istore_n (lv' := [(1, .int (0 : Int32)), (0, .ref (aM 0))]) hx hb dX6_roadsNow_1 rfl hl (by decide) rfl (fun ls hl => ?_)
  refine lv_iconst (v := (0 : Int32)) hx hb dX6_roadsNow_2 k_iconst_0 ?_
  refine lv_istore_n (lv' := [(2, .int (0 : Int32)), (1, .int (0 : Int32)), (0, .ref (aM 0))]) hx hb dX6_roadsNow_3 rfl hl (by decide) rfl (fun ls hl => ?_)
  obtain ⟨o4_1, ho4_1, h⟩ := bnd_some h
  refine L4 o4_1 (fun o4_1e er H locs ls hP hD hS hl => ?_) FU (0 : Int32) (0 : Int32) ho4_1 _ _ _ hP hD hS (lv_sub hl [2, 1, 0] rfl)
  subst er
  refine lv_iload_n hx hb dX6_roadsNow_75 rfl (lv_at hl 0 rfl) ?_
  have hres := Option.some.inj h
  subst hres
  exact hRet 76 _ _ _ hP hD hS dX6_roadsNow_76
abbrev rm_X6_hostsNow : Room := { frames := 2, cells := 0, slots := 0, locals := 46 }
theorem fi_X6_hostsNow_X6 : ∀ w ∈ wsX60, w ∈ wsX6_hostsNow := fun _ h => List.mem_cons_of_mem _ (List.mem_append_right _ h)
theorem hdV_X6_hostsNow : yX6_hostsNow.cls = RX6 ∧ yX6_hostsNow.cls ≠ "java/lang/invoke/MethodHandle" ∧ yX6_hostsNow.cls ≠ "java/lang/invoke/VarHandle" ∧ (parseMethodDescriptor yX6_hostsNow.desc).map (fun d => d.parameters.length) = some 0 := by decide +kernel
set_option maxRecDepth 100000 in
set_option maxHeartbeats 4000000 in
theorem c_X6_hostsNow (l : Launch) (G : va_G) (cI cZ : ClassId) (aM : Nat → Nat) (vT : Int64) (vM : Ob)  (res : Int32) (h : m_X6_hostsNow vM  = some res) : Ct l yX6_hostsNow wsX6_hostsNow rm_X6_hostsNow G cI cZ [.ref (aM 0)] [oX6 aM vM vT, ai cI (aM 1) 70 (vM 1), ai cI (aM 3) 40 (vM 3)] (some (.int res)) [oX6 aM vM vT, ai cI (aM 1) 70 (vM 1), ai cI (aM 3) 40 (vM 3)] := by
  refine Ct.of_i (maxL := 3) (by decide) rfl (Nat.le_of_ble_eq_true rfl) ?_
  intro p e s m below meth c args hx hb hml hown hts A hA hEN hP hD hS Q hRet ls hl
  have hown : s.vm.findClass RX6 = some m.cls := hown
  have hl : lv_has ls 3 [(0, .ref (aM 0))] := hl
  have L4 : ∀ (out : Int32), (∀ ex : Int32, out = ex → ∀ (H : Heap) (locs : List Loc) (ls : Array Slot), va_P G vwCl [oX6 aM vM vT, ai cI (aM 1) 70 (vM 1), ai cI (aM 3) 40 (vM 3)] H → va_D A [oX6 aM vM vT, ai cI (aM 1) 70 (vM 1), ai cI (aM 3) 40 (vM 3)] → va_S A s.heap H locs → lv_has ls 3 [(1, .int ex)] → W p l e rm_X6_hostsNow s m args below meth c H locs 0 0 Q (F0 m 50 ls [])) → ∀ (n : Nat) (x1 : Int32) (x2 : Int32), m_X6_hostsNow_L4 vM n x1 x2 = some out → ∀ (H : Heap) (locs : List Loc) (ls : Array Slot), va_P G vwCl [oX6 aM vM vT, ai cI (aM 1) 70 (vM 1), ai cI (aM 3) 40 (vM 3)] H → va_D A [oX6 aM vM vT, ai cI (aM 1) 70 (vM 1), ai cI (aM 3) 40 (vM 3)] → va_S A s.heap H locs → lv_has ls 3 [(0, .ref (aM 0)), (1, .int x1), (2, .int x2)] → W p l e rm_X6_hostsNow s m args below meth c H locs 0 0 Q (F0 m 4 ls []) := by
    intro out hKx
    have j42 : ∀ (rc : Int32 → Int32 → Option (Int32)), (∀ (x1 : Int32) (x2 : Int32), rc x1 x2 = some out → ∀ (H : Heap) (locs : List Loc) (ls : Array Slot), va_P G vwCl [oX6 aM vM vT, ai cI (aM 1) 70 (vM 1), ai cI (aM 3) 40 (vM 3)] H → va_D A [oX6 aM vM vT, ai cI (aM 1) 70 (vM 1), ai cI (aM 3) 40 (vM 3)] → va_S A s.heap H locs → lv_has ls 3 [(0, .ref (aM 0)), (1, .int x1), (2, .int x2)] → W p l e rm_X6_hostsNow s m args below meth c H locs 0 0 Q (F0 m 4 ls [])) → ∀ (x2 : Int32) (s0 : Int32) (s1 : Int32), m_X6_hostsNow_j42 vM rc x2 s0 s1 = some out → ∀ (H : Heap) (locs : List Loc) (ls : Array Slot), va_P G vwCl [oX6 aM vM vT, ai cI (aM 1) 70 (vM 1), ai cI (aM 3) 40 (vM 3)] H → va_D A [oX6 aM vM vT, ai cI (aM 1) 70 (vM 1), ai cI (aM 3) 40 (vM 3)] → va_S A s.heap H locs → lv_has ls 3 [(0, .ref (aM 0)), (2, .int x2)] → W p l e rm_X6_hostsNow s m args below meth c H locs 0 0 Q (F0 m 42 ls [.int s1, .int s0]) := by
      intro rc hrc x2 s0 s1 h H locs ls hP hD hS hl
      unfold m_X6_hostsNow_j42 at h
      refine lv_ior hx hb dX6_hostsNow_42 ?_
      refine lv_istore_n (lv' := [(1, .int (s0 ||| s1)), (0, .ref (aM 0)), (2, .int x2)]) hx hb dX6_hostsNow_43 rfl hl (by decide) rfl (fun ls hl => ?_)
      refine lv_iinc (v := (x2 + (1 : Int32))) (lv' := [(2, .int (x2 + (1 : Int32))), (1, .int (s0 ||| s1)), (0, .ref (aM 0))]) hx hb dX6_hostsNow_44 hl (k := 2) rfl (congrArg (fun z => x2 + z) k_iconst_1) (by decide) rfl (fun ls hl => ?_)
      refine lv_goto (tgt := 4) hx hb dX6_hostsNow_47 (by decide) ?_
      exact hrc (s0 ||| s1) (x2 + (1 : Int32)) h _ _ _ hP hD hS (lv_sub hl [2, 1, 0] rfl)
    intro n
    induction n with
    | zero => intro x1 x2 h; exact nomatch (show (none : Option (Int32)) = some out from h)
    | succ n hrc =>
      intro x1 x2 h H locs ls hP hD hS hl
      have h : m_X6_hostsNow_L4B vM (m_X6_hostsNow_L4 vM n) x1 x2 = some out := h
      generalize m_X6_hostsNow_L4 vM n = rc at h hrc
      unfold m_X6_hostsNow_L4B at h
      refine lv_iload_n hx hb dX6_hostsNow_4 rfl (lv_at hl 2 rfl) ?_
      refine lv_aload_n hx hb dX6_hostsNow_5 rfl (lv_at hl 0 rfl) ?_
      refine va_get (D := G) (ci := 6) (v := .ref (aM 1)) (C := RX6) (T := TX6) (N := 29) hx hb hts fi_X6_hostsNow_X6 hown hEN.1 hP 0 rfl rfl 0 (by decide) (hts (.fieldLink RX6 7 "HourWellModel" "tale" "[I") (List.mem_of_getElem? (i := 1) rfl)) (fun _ h9 => h9) rfl dX6_hostsNow_6 ?_
      refine lv_iconst (v := (2 : Int32)) hx hb dX6_hostsNow_9 k_iconst_2 ?_
      refine va_iald (f := (vM 1)) hx hb hEN.1 hP 1 0 rfl rfl (inb_in (i := (2 : Int32)) (n := 70) rfl) dX6_hostsNow_10 ?_
      refine lv_icmp_ge (tgt := 50) hx hb dX6_hostsNow_11 (by decide) (fun c11 => ?_) (fun c11 => ?_)
      · have h := (if_pos c11).symm.trans h
        exact hKx _ (Option.some.inj h).symm _ _ _ hP hD hS (lv_sub hl [1] rfl)
      · have h := (if_neg c11).symm.trans h
        refine lv_iload_n hx hb dX6_hostsNow_14 rfl (lv_at hl 1 rfl) ?_
        refine lv_aload_n hx hb dX6_hostsNow_15 rfl (lv_at hl 0 rfl) ?_
        refine lv_iload_n hx hb dX6_hostsNow_16 rfl (lv_at hl 2 rfl) ?_
        refine lv_aload_n hx hb dX6_hostsNow_17 rfl (lv_at hl 0 rfl) ?_
        refine va_get (D := G) (ci := 6) (v := .ref (aM 3)) (C := RX6) (T := TX6) (N := 29) hx hb hts fi_X6_hostsNow_X6 hown hEN.1 hP 0 rfl rfl 2 (by decide) (hts (.fieldLink RX6 16 "HourWellModel" "he" "[I") (List.mem_of_getElem? (i := 2) rfl)) (fun _ h9 => h9) rfl dX6_hostsNow_18 ?_
        refine lv_iconst (v := (0 : Int32)) hx hb dX6_hostsNow_21 k_iconst_0 ?_
        refine va_iald (f := (vM 3)) hx hb hEN.1 hP 2 0 rfl rfl (inb_in (i := (0 : Int32)) (n := 40) rfl) dX6_hostsNow_22 ?_
        refine lv_aload_n hx hb dX6_hostsNow_23 rfl (lv_at hl 0 rfl) ?_
        refine va_get (D := G) (ci := 6) (v := .ref (aM 3)) (C := RX6) (T := TX6) (N := 29) hx hb hts fi_X6_hostsNow_X6 hown hEN.1 hP 0 rfl rfl 2 (by decide) (hts (.fieldLink RX6 16 "HourWellModel" "he" "[I") (List.mem_of_getElem? (i := 2) rfl)) (fun _ h9 => h9) rfl dX6_hostsNow_24 ?_
        refine lv_iconst (v := (2 : Int32)) hx hb dX6_hostsNow_27 k_iconst_2 ?_
        refine va_iald (f := (vM 3)) hx hb hEN.1 hP 2 0 rfl rfl (inb_in (i := (2 : Int32)) (n := 40) rfl) dX6_hostsNow_28 ?_
        obtain ⟨o29, ho29, h⟩ := bnd_some h
        refine call_V0 (As := [.int x2, .int ((vM 3) (Int32.toNatClampNeg (0 : Int32))), .int ((vM 3) (Int32.toNatClampNeg (2 : Int32)))]) (rest := [.int x1]) ⟨hx, hb, hml, hown, hts⟩ (c_X6_given l G cI cZ aM vT vM x2 ((vM 3) (Int32.toNatClampNeg (0 : Int32))) ((vM 3) (Int32.toNatClampNeg (2 : Int32))) o29 ho29) (cwV 3 hts gX6_hostsNow_X6_given rfl rfl rfl hdV_X6_given ⟨Nat.le_of_ble_eq_true rfl, Nat.le_of_ble_eq_true rfl⟩) hEN hA hP hD hS [0, 1] rfl (by decide) 0 rfl rfl rfl hl.1 rfl (Nat.le_of_ble_eq_true rfl) dX6_hostsNow_29 ⟨Nat.le_of_ble_eq_true rfl, Nat.le_of_ble_eq_true rfl⟩ (fun H locs hP hS => ?_)
        refine lv_if_ge (tgt := 39) hx hb dX6_hostsNow_32 (by decide) (fun c32 => ?_) (fun c32 => ?_)
        · have h := (if_pos c32).symm.trans h
          refine lv_iconst (v := (1 : Int32)) hx hb dX6_hostsNow_39 k_iconst_1 ?_
          refine lv_iload_n hx hb dX6_hostsNow_40 rfl (lv_at hl 2 rfl) ?_
          refine lv_ishl hx hb dX6_hostsNow_41 ?_
          exact j42 rc hrc x2 x1 ((1 : Int32) <<< (x2 &&& 31)) h _ _ _ hP hD hS (lv_sub hl [0, 2] rfl)
        · have h := (if_neg c32).symm.trans h
          refine lv_iconst (v := (0 : Int32)) hx hb dX6_hostsNow_35 k_iconst_0 ?_
          refine lv_goto (tgt := 42) hx hb dX6_hostsNow_36 (by decide) ?_
          exact j42 rc hrc x2 x1 (0 : Int32) h _ _ _ hP hD hS (lv_sub hl [0, 2] rfl)
  unfold m_X6_hostsNow at h
  refine lv_iconst (v := (0 : Int32)) hx hb dX6_hostsNow_0 k_iconst_0 ?_
  refine lv_istore_n (lv' := [(1, .int (0 : Int32)), (0, .ref (aM 0))]) hx hb dX6_hostsNow_1 rfl hl (by decide) rfl (fun ls hl => ?_)
  refine lv_iconst (v := (0 : Int32)) hx hb dX6_hostsNow_2 k_iconst_0 ?_
  refine lv_istore_n (lv' := [(2, .int (0 : Int32)), (1, .int (0 : Int32)), (0, .ref (aM 0))]) hx hb dX6_hostsNow_3 rfl hl (by decide) rfl (fun ls hl => ?_)
  obtain ⟨o4_1, ho4_1, h⟩ := bnd_some h
  refine L4 o4_1 (fun o4_1e er H locs ls hP hD hS hl => ?_) FU (0 : Int32) (0 : Int32) ho4_1 _ _ _ hP hD hS (lv_sub hl [2, 1, 0] rfl)
  subst er
  refine lv_iload_n hx hb dX6_hostsNow_50 rfl (lv_at hl 0 rfl) ?_
  have hres := Option.some.inj h
  subst hres
  exact hRet 51 _ _ _ hP hD hS dX6_hostsNow_51
abbrev rm_X6_now : Room := { frames := 3, cells := 0, slots := 0, locals := 71 }
theorem fi_X6_now_X6 : ∀ w ∈ wsX60, w ∈ wsX6_now := fun _ h => List.mem_cons_of_mem _ (List.mem_append_right _ h)
theorem hdV_X6_now : yX6_now.cls = RX6 ∧ yX6_now.cls ≠ "java/lang/invoke/MethodHandle" ∧ yX6_now.cls ≠ "java/lang/invoke/VarHandle" ∧ (parseMethodDescriptor yX6_now.desc).map (fun d => d.parameters.length) = some 1 := by decide +kernel
set_option maxRecDepth 100000 in
set_option maxHeartbeats 4000000 in
theorem c_X6_now (l : Launch) (G : va_G) (cI cZ : ClassId) (aM : Nat → Nat) (vT : Int64) (vM : Ob) (x1 : Int32) (res : Int32) (h : m_X6_now vM x1 = some res) : Ct l yX6_now wsX6_now rm_X6_now G cI cZ [.ref (aM 0), .int x1] [oX6 aM vM vT, ai cI (aM 1) 70 (vM 1), ai cI (aM 3) 40 (vM 3)] (some (.int res)) [oX6 aM vM vT, ai cI (aM 1) 70 (vM 1), ai cI (aM 3) 40 (vM 3)] := by
  refine Ct.of_i (maxL := 2) (by decide) rfl (Nat.le_of_ble_eq_true rfl) ?_
  intro p e s m below meth c args hx hb hml hown hts A hA hEN hP hD hS Q hRet ls hl
  have hown : s.vm.findClass RX6 = some m.cls := hown
  have hl : lv_has ls 2 [(0, .ref (aM 0)), (1, .int x1)] := hl
  unfold m_X6_now at h
  refine lv_iload_n hx hb dX6_now_0 rfl (lv_at hl 1 rfl) ?_
  by_cases c1_0 : x1 = (0 : Int32)
  · have h := (if_pos c1_0).symm.trans h
    refine lv_tableIn (off := 39) (tgt := 40) hx hb dX6_now_1 (by rw [c1_0]; decide) (by rw [c1_0]; decide) (by rw [c1_0]; decide) (by decide) ?_
    refine lv_aload_n hx hb dX6_now_40 rfl (lv_at hl 0 rfl) ?_
    refine va_get (D := G) (ci := 6) (v := .ref (aM 1)) (C := RX6) (T := TX6) (N := 29) hx hb hts fi_X6_now_X6 hown hEN.1 hP 0 rfl rfl 0 (by decide) (hts (.fieldLink RX6 7 "HourWellModel" "tale" "[I") (List.mem_of_getElem? (i := 1) rfl)) (fun _ h9 => h9) rfl dX6_now_41 ?_
    refine lv_iconst (v := (0 : Int32)) hx hb dX6_now_44 k_iconst_0 ?_
    refine va_iald (f := (vM 1)) hx hb hEN.1 hP 1 0 rfl rfl (inb_in (i := (0 : Int32)) (n := 70) rfl) dX6_now_45 ?_
    refine lv_if_ne (tgt := 54) hx hb dX6_now_46 (by decide) (fun c46 => ?_) (fun c46 => ?_)
    · have h := (if_neg c46).symm.trans h
      refine lv_aload_n hx hb dX6_now_54 rfl (lv_at hl 0 rfl) ?_
      refine va_get (D := G) (ci := 6) (v := .ref (aM 3)) (C := RX6) (T := TX6) (N := 29) hx hb hts fi_X6_now_X6 hown hEN.1 hP 0 rfl rfl 2 (by decide) (hts (.fieldLink RX6 16 "HourWellModel" "he" "[I") (List.mem_of_getElem? (i := 2) rfl)) (fun _ h9 => h9) rfl dX6_now_55 ?_
      refine lv_iconst (v := (0 : Int32)) hx hb dX6_now_58 k_iconst_0 ?_
      refine va_iald (f := (vM 3)) hx hb hEN.1 hP 2 0 rfl rfl (inb_in (i := (0 : Int32)) (n := 40) rfl) dX6_now_59 ?_
      have hres := Option.some.inj h
      subst hres
      exact hRet 60 _ _ _ hP hD hS dX6_now_60
    · have h := (if_pos c46).symm.trans h
      refine lv_bipush (v := (-9 : Int32)) hx hb dX6_now_49 k_bipush_n9 ?_
      refine lv_goto (tgt := 60) hx hb dX6_now_51 (by decide) ?_
      have hres := Option.some.inj h
      subst hres
      exact hRet 60 _ _ _ hP hD hS dX6_now_60
  · have h := (if_neg c1_0).symm.trans h
    by_cases c1_1 : x1 = (1 : Int32)
    · have h := (if_pos c1_1).symm.trans h
      refine lv_tableIn (off := 60) (tgt := 61) hx hb dX6_now_1 (by rw [c1_1]; decide) (by rw [c1_1]; decide) (by rw [c1_1]; decide) (by decide) ?_
      refine lv_aload_n hx hb dX6_now_61 rfl (lv_at hl 0 rfl) ?_
      refine va_get (D := G) (ci := 6) (v := .ref (aM 3)) (C := RX6) (T := TX6) (N := 29) hx hb hts fi_X6_now_X6 hown hEN.1 hP 0 rfl rfl 2 (by decide) (hts (.fieldLink RX6 16 "HourWellModel" "he" "[I") (List.mem_of_getElem? (i := 2) rfl)) (fun _ h9 => h9) rfl dX6_now_62 ?_
      refine lv_iconst (v := (1 : Int32)) hx hb dX6_now_65 k_iconst_1 ?_
      refine va_iald (f := (vM 3)) hx hb hEN.1 hP 2 0 rfl rfl (inb_in (i := (1 : Int32)) (n := 40) rfl) dX6_now_66 ?_
      have hres := Option.some.inj h
      subst hres
      exact hRet 67 _ _ _ hP hD hS dX6_now_67
    · have h := (if_neg c1_1).symm.trans h
      by_cases c1_2 : x1 = (2 : Int32)
      · have h := (if_pos c1_2).symm.trans h
        refine lv_tableIn (off := 67) (tgt := 68) hx hb dX6_now_1 (by rw [c1_2]; decide) (by rw [c1_2]; decide) (by rw [c1_2]; decide) (by decide) ?_
        refine lv_aload_n hx hb dX6_now_68 rfl (lv_at hl 0 rfl) ?_
        refine va_get (D := G) (ci := 6) (v := .ref (aM 3)) (C := RX6) (T := TX6) (N := 29) hx hb hts fi_X6_now_X6 hown hEN.1 hP 0 rfl rfl 2 (by decide) (hts (.fieldLink RX6 16 "HourWellModel" "he" "[I") (List.mem_of_getElem? (i := 2) rfl)) (fun _ h9 => h9) rfl dX6_now_69 ?_
        refine lv_iconst (v := (1 : Int32)) hx hb dX6_now_72 k_iconst_1 ?_
        refine va_iald (f := (vM 3)) hx hb hEN.1 hP 2 0 rfl rfl (inb_in (i := (1 : Int32)) (n := 40) rfl) dX6_now_73 ?_
        refine lv_bipush (v := (24 : Int32)) hx hb dX6_now_74 k_bipush_24 ?_
        refine lv_rem hx hb dX6_now_76 (by decide) ?_
        have hres := Option.some.inj h
        subst hres
        exact hRet 77 _ _ _ hP hD hS dX6_now_77
      · have h := (if_neg c1_2).symm.trans h
        by_cases c1_3 : x1 = (3 : Int32)
        · have h := (if_pos c1_3).symm.trans h
          refine lv_tableIn (off := 77) (tgt := 78) hx hb dX6_now_1 (by rw [c1_3]; decide) (by rw [c1_3]; decide) (by rw [c1_3]; decide) (by decide) ?_
          refine lv_aload_n hx hb dX6_now_78 rfl (lv_at hl 0 rfl) ?_
          refine va_get (D := G) (ci := 6) (v := .ref (aM 3)) (C := RX6) (T := TX6) (N := 29) hx hb hts fi_X6_now_X6 hown hEN.1 hP 0 rfl rfl 2 (by decide) (hts (.fieldLink RX6 16 "HourWellModel" "he" "[I") (List.mem_of_getElem? (i := 2) rfl)) (fun _ h9 => h9) rfl dX6_now_79 ?_
          refine lv_iconst (v := (2 : Int32)) hx hb dX6_now_82 k_iconst_2 ?_
          refine va_iald (f := (vM 3)) hx hb hEN.1 hP 2 0 rfl rfl (inb_in (i := (2 : Int32)) (n := 40) rfl) dX6_now_83 ?_
          have hres := Option.some.inj h
          subst hres
          exact hRet 84 _ _ _ hP hD hS dX6_now_84
        · have h := (if_neg c1_3).symm.trans h
          by_cases c1_4 : x1 = (4 : Int32)
          · have h := (if_pos c1_4).symm.trans h
            refine lv_tableIn (off := 84) (tgt := 85) hx hb dX6_now_1 (by rw [c1_4]; decide) (by rw [c1_4]; decide) (by rw [c1_4]; decide) (by decide) ?_
            refine lv_aload_n hx hb dX6_now_85 rfl (lv_at hl 0 rfl) ?_
            obtain ⟨o86, ho86, h⟩ := bnd_some h
            refine call_V0 (As := []) (rest := []) ⟨hx, hb, hml, hown, hts⟩ (c_X6_roadsNow l G cI cZ aM vT vM o86 ho86) (cwV 0 hts gX6_now_X6_roadsNow rfl rfl rfl hdV_X6_roadsNow ⟨Nat.le_of_ble_eq_true rfl, Nat.le_of_ble_eq_true rfl⟩) hEN hA hP hD hS [0, 1, 2] rfl (by decide) 0 rfl rfl rfl hl.1 rfl (Nat.le_of_ble_eq_true rfl) dX6_now_86 ⟨Nat.le_of_ble_eq_true rfl, Nat.le_of_ble_eq_true rfl⟩ (fun H locs hP hS => ?_)
            have hres := Option.some.inj h
            subst hres
            exact hRet 89 _ _ _ hP hD hS dX6_now_89
          · have h := (if_neg c1_4).symm.trans h
            by_cases c1_5 : x1 = (5 : Int32)
            · have h := (if_pos c1_5).symm.trans h
              refine lv_tableIn (off := 89) (tgt := 90) hx hb dX6_now_1 (by rw [c1_5]; decide) (by rw [c1_5]; decide) (by rw [c1_5]; decide) (by decide) ?_
              refine lv_aload_n hx hb dX6_now_90 rfl (lv_at hl 0 rfl) ?_
              obtain ⟨o91, ho91, h⟩ := bnd_some h
              refine call_V0 (As := []) (rest := []) ⟨hx, hb, hml, hown, hts⟩ (c_X6_hostsNow l G cI cZ aM vT vM o91 ho91) (cwV 0 hts gX6_now_X6_hostsNow rfl rfl rfl hdV_X6_hostsNow ⟨Nat.le_of_ble_eq_true rfl, Nat.le_of_ble_eq_true rfl⟩) hEN hA hP hD hS [0, 1, 2] rfl (by decide) 0 rfl rfl rfl hl.1 rfl (Nat.le_of_ble_eq_true rfl) dX6_now_91 ⟨Nat.le_of_ble_eq_true rfl, Nat.le_of_ble_eq_true rfl⟩ (fun H locs hP hS => ?_)
              have hres := Option.some.inj h
              subst hres
              exact hRet 94 _ _ _ hP hD hS dX6_now_94
            · have h := (if_neg c1_5).symm.trans h
              refine lv_tableOut (tgt := 95) hx hb dX6_now_1 (by have e0 := lv_neT c1_0 (a := 0) (by decide); have e1 := lv_neT c1_1 (a := 1) (by decide); have e2 := lv_neT c1_2 (a := 2) (by decide); have e3 := lv_neT c1_3 (a := 3) (by decide); have e4 := lv_neT c1_4 (a := 4) (by decide); have e5 := lv_neT c1_5 (a := 5) (by decide);  omega) (by decide) ?_
              refine lv_iconst (v := (-1 : Int32)) hx hb dX6_now_95 k_iconst_n1 ?_
              have hres := Option.some.inj h
              subst hres
              exact hRet 96 _ _ _ hP hD hS dX6_now_96
abbrev rm_X6_withAll : Room := { frames := 0, cells := 0, slots := 0, locals := 0 }
theorem fi_X6_withAll_X6 : ∀ w ∈ wsX60, w ∈ wsX6_withAll := fun _ h => List.mem_cons_of_mem _ (List.mem_append_right _ h)
theorem hdV_X6_withAll : yX6_withAll.cls = RX6 ∧ yX6_withAll.cls ≠ "java/lang/invoke/MethodHandle" ∧ yX6_withAll.cls ≠ "java/lang/invoke/VarHandle" ∧ (parseMethodDescriptor yX6_withAll.desc).map (fun d => d.parameters.length) = some 0 := by decide +kernel
set_option maxRecDepth 100000 in
set_option maxHeartbeats 4000000 in
theorem c_X6_withAll (l : Launch) (G : va_G) (cI cZ : ClassId) (aM : Nat → Nat) (vT : Int64) (vM : Ob)  (res : Ob) (h : m_X6_withAll vM  = some res) : Ct l yX6_withAll wsX6_withAll rm_X6_withAll G cI cZ [.ref (aM 0)] [oX6 aM vM vT, ai cI (aM 1) 70 (vM 1), ai cI (aM 2) 70 (vM 2), ai cI (aM 3) 40 (vM 3), ai cI (aM 4) 80 (vM 4), ai cZ (aM 5) 2 (vM 5), ai cI (aM 6) 200 (vM 6), ai cI (aM 8) 12 (vM 8), ai cI (aM 10) 12 (vM 10), ai cI (aM 18) 427 (vM 18), ai cI (aM 21) 100 (vM 21), ai cI (aM 23) 100 (vM 23), ai cI (aM 24) 100 (vM 24), ai cI (aM 26) 7 (vM 26), ai cI (aM 27) 5 (vM 27), ai cI (aM 28) 64 (vM 28)] none [oX6 aM res vT, ai cI (aM 1) 70 (res 1), ai cI (aM 2) 70 (res 2), ai cI (aM 3) 40 (res 3), ai cI (aM 4) 80 (res 4), ai cZ (aM 5) 2 (res 5), ai cI (aM 6) 200 (res 6), ai cI (aM 8) 12 (res 8), ai cI (aM 10) 12 (res 10), ai cI (aM 18) 427 (res 18), ai cI (aM 21) 100 (res 21), ai cI (aM 23) 100 (res 23), ai cI (aM 24) 100 (res 24), ai cI (aM 26) 7 (res 26), ai cI (aM 27) 5 (res 27), ai cI (aM 28) 64 (res 28)] := by
  refine Ct.of_v (maxL := 1) (by decide) rfl (Nat.le_of_ble_eq_true rfl) ?_
  intro p e s m below meth c args hx hb hml hown hts A hA hEN hP hD hS Q hRet ls hl
  have hown : s.vm.findClass RX6 = some m.cls := hown
  have hl : lv_has ls 1 [(0, .ref (aM 0))] := hl
  unfold m_X6_withAll at h
  refine lv_aload_n hx hb dX6_withAll_0 rfl (lv_at hl 0 rfl) ?_
  refine lv_iconst (v := (-1 : Int32)) hx hb dX6_withAll_1 k_iconst_n1 ?_
  refine va_put (D := G) (ci := 6) (v := .int (-1 : Int32)) (ty := .int) (C := RX6) (T := TX6) (N := 29) hx hb hts fi_X6_withAll_X6 tyX6 tyX6_ok nmX6 hown hEN.1 hP hD hS 0 rfl rfl 18 (by decide) (hts (.fieldLink RX6 191 "HourWellModel" "noRoad" "I") (List.mem_of_getElem? (i := 1) rfl)) (fun _ h9 => h9) rfl (by decide +kernel) rfl rfl (Nat.le_of_ble_eq_true rfl) dX6_withAll_2 (fun H locs hP hD hS => ?_)
  have hP : va_P G vwCl [oX6 aM (st vM 0 18 (-1 : Int32)) vT, ai cI (aM 1) 70 (vM 1), ai cI (aM 2) 70 (vM 2), ai cI (aM 3) 40 (vM 3), ai cI (aM 4) 80 (vM 4), ai cZ (aM 5) 2 (vM 5), ai cI (aM 6) 200 (vM 6), ai cI (aM 8) 12 (vM 8), ai cI (aM 10) 12 (vM 10), ai cI (aM 18) 427 (vM 18), ai cI (aM 21) 100 (vM 21), ai cI (aM 23) 100 (vM 23), ai cI (aM 24) 100 (vM 24), ai cI (aM 26) 7 (vM 26), ai cI (aM 27) 5 (vM 27), ai cI (aM 28) 64 (vM 28)] H := hP
  have hD : va_D A [oX6 aM (st vM 0 18 (-1 : Int32)) vT, ai cI (aM 1) 70 (vM 1), ai cI (aM 2) 70 (vM 2), ai cI (aM 3) 40 (vM 3), ai cI (aM 4) 80 (vM 4), ai cZ (aM 5) 2 (vM 5), ai cI (aM 6) 200 (vM 6), ai cI (aM 8) 12 (vM 8), ai cI (aM 10) 12 (vM 10), ai cI (aM 18) 427 (vM 18), ai cI (aM 21) 100 (vM 21), ai cI (aM 23) 100 (vM 23), ai cI (aM 24) 100 (vM 24), ai cI (aM 26) 7 (vM 26), ai cI (aM 27) 5 (vM 27), ai cI (aM 28) 64 (vM 28)] := hD
  refine lv_aload_n hx hb dX6_withAll_5 rfl (lv_at hl 0 rfl) ?_
  refine lv_iconst (v := (-1 : Int32)) hx hb dX6_withAll_6 k_iconst_n1 ?_
  refine va_put (D := G) (ci := 6) (v := .int (-1 : Int32)) (ty := .int) (C := RX6) (T := TX6) (N := 29) hx hb hts fi_X6_withAll_X6 tyX6 tyX6_ok nmX6 hown hEN.1 hP hD hS 0 rfl rfl 19 (by decide) (hts (.fieldLink RX6 194 "HourWellModel" "noHost" "I") (List.mem_of_getElem? (i := 2) rfl)) (fun _ h9 => h9) rfl (by decide +kernel) rfl rfl (Nat.le_of_ble_eq_true rfl) dX6_withAll_7 (fun H locs hP hD hS => ?_)
  have hP : va_P G vwCl [oX6 aM (st (st vM 0 18 (-1 : Int32)) 0 19 (-1 : Int32)) vT, ai cI (aM 1) 70 (vM 1), ai cI (aM 2) 70 (vM 2), ai cI (aM 3) 40 (vM 3), ai cI (aM 4) 80 (vM 4), ai cZ (aM 5) 2 (vM 5), ai cI (aM 6) 200 (vM 6), ai cI (aM 8) 12 (vM 8), ai cI (aM 10) 12 (vM 10), ai cI (aM 18) 427 (vM 18), ai cI (aM 21) 100 (vM 21), ai cI (aM 23) 100 (vM 23), ai cI (aM 24) 100 (vM 24), ai cI (aM 26) 7 (vM 26), ai cI (aM 27) 5 (vM 27), ai cI (aM 28) 64 (vM 28)] H := hP
  have hD : va_D A [oX6 aM (st (st vM 0 18 (-1 : Int32)) 0 19 (-1 : Int32)) vT, ai cI (aM 1) 70 (vM 1), ai cI (aM 2) 70 (vM 2), ai cI (aM 3) 40 (vM 3), ai cI (aM 4) 80 (vM 4), ai cZ (aM 5) 2 (vM 5), ai cI (aM 6) 200 (vM 6), ai cI (aM 8) 12 (vM 8), ai cI (aM 10) 12 (vM 10), ai cI (aM 18) 427 (vM 18), ai cI (aM 21) 100 (vM 21), ai cI (aM 23) 100 (vM 23), ai cI (aM 24) 100 (vM 24), ai cI (aM 26) 7 (vM 26), ai cI (aM 27) 5 (vM 27), ai cI (aM 28) 64 (vM 28)] := hD
  have hres := Option.some.inj h
  subst hres
  exact hRet 10 _ _ _ hP hD hS dX6_withAll_10
abbrev rm_X6_canBe : Room := { frames := 1, cells := 0, slots := 0, locals := 21 }
theorem fi_X6_canBe_X6 : ∀ w ∈ wsX60, w ∈ wsX6_canBe := fun _ h => List.mem_cons_of_mem _ (List.mem_append_right _ h)
theorem hdV_X6_canBe : yX6_canBe.cls = RX6 ∧ yX6_canBe.cls ≠ "java/lang/invoke/MethodHandle" ∧ yX6_canBe.cls ≠ "java/lang/invoke/VarHandle" ∧ (parseMethodDescriptor yX6_canBe.desc).map (fun d => d.parameters.length) = some 3 := by decide +kernel
set_option maxRecDepth 100000 in
set_option maxHeartbeats 4000000 in
theorem c_X6_canBe (l : Launch) (G : va_G) (cI cZ : ClassId) (aM : Nat → Nat) (vT : Int64) (vM : Ob) (x1 : Int32) (x2 : Int32) (x3 : Int32) (res : Int32) (h : m_X6_canBe vM x1 x2 x3 = some res) : Ct l yX6_canBe wsX6_canBe rm_X6_canBe G cI cZ [.ref (aM 0), .int x1, .int x2, .int x3] [oX6 aM vM vT, ai cI (aM 18) 427 (vM 18)] (some (.int res)) [oX6 aM vM vT, ai cI (aM 18) 427 (vM 18)] := by
  refine Ct.of_z (maxL := 4) (by decide) rfl (Nat.le_of_ble_eq_true rfl) ?_
  intro p e s m below meth c args hx hb hml hown hts A hA hEN hP hD hS Q hRet ls hl
  have hown : s.vm.findClass RX6 = some m.cls := hown
  have hl : lv_has ls 4 [(0, .ref (aM 0)), (1, .int x1), (2, .int x2), (3, .int x3)] := hl
  unfold m_X6_canBe at h
  refine lv_aload_n hx hb dX6_canBe_0 rfl (lv_at hl 0 rfl) ?_
  refine va_get (D := G) (ci := 6) (v := .ref (aM 18)) (C := RX6) (T := TX6) (N := 29) hx hb hts fi_X6_canBe_X6 hown hEN.1 hP 0 rfl rfl 17 (by decide) (hts (.fieldLink RX6 35 "HourWellModel" "can" "[I") (List.mem_of_getElem? (i := 1) rfl)) (fun _ h9 => h9) rfl dX6_canBe_1 ?_
  refine lv_bipush (v := (7 : Int32)) hx hb dX6_canBe_4 k_bipush_7 ?_
  refine lv_iload_n hx hb dX6_canBe_6 rfl (lv_at hl 1 rfl) ?_
  refine lv_imul hx hb dX6_canBe_7 ?_
  refine lv_iload_n hx hb dX6_canBe_8 rfl (lv_at hl 2 rfl) ?_
  refine lv_iadd hx hb dX6_canBe_9 ?_
  obtain ⟨hg10, h⟩ := grd_some h
  refine va_iald (f := (vM 18)) hx hb hEN.1 hP 1 0 rfl rfl (inb_in hg10) dX6_canBe_10 ?_
  refine lv_iload_n hx hb dX6_canBe_11 rfl (lv_at hl 3 rfl) ?_
  obtain ⟨o12, ho12, h⟩ := bnd_some h
  refine call_S0 (As := [.int ((vM 18) (Int32.toNatClampNeg (((7 : Int32) * x1) + x2))), .int x3]) (rest := []) ⟨hx, hb, hml, hown, hts⟩ (c_X6_holds l G cI cZ  ((vM 18) (Int32.toNatClampNeg (((7 : Int32) * x1) + x2))) x3 o12 ho12) (va_cwS 2 hts gX6_canBe_X6_holds rfl rfl rfl hdS_X6_holds ⟨Nat.le_of_ble_eq_true rfl, Nat.le_of_ble_eq_true rfl⟩) hEN hA hP hD hS [] rfl (by decide) rfl hl.1 rfl (Nat.le_of_ble_eq_true rfl) dX6_canBe_12 ⟨Nat.le_of_ble_eq_true rfl, Nat.le_of_ble_eq_true rfl⟩ (fun H locs hP hS => ?_)
  obtain ⟨hg15, h⟩ := grd_some h
  have hres := Option.some.inj h
  subst hres
  exact hRet 15 (bz_n hg15) _ _ _ hP hD hS dX6_canBe_15
abbrev rm_X6_leads : Room := { frames := 2, cells := 0, slots := 0, locals := 48 }
theorem fi_X6_leads_X6 : ∀ w ∈ wsX60, w ∈ wsX6_leads := fun _ h => List.mem_cons_of_mem _ (List.mem_append_right _ h)
theorem hdV_X6_leads : yX6_leads.cls = RX6 ∧ yX6_leads.cls ≠ "java/lang/invoke/MethodHandle" ∧ yX6_leads.cls ≠ "java/lang/invoke/VarHandle" ∧ (parseMethodDescriptor yX6_leads.desc).map (fun d => d.parameters.length) = some 5 := by decide +kernel
set_option maxRecDepth 100000 in
set_option maxHeartbeats 4000000 in
theorem c_X6_leads (l : Launch) (G : va_G) (cI cZ : ClassId) (aM : Nat → Nat) (vT : Int64) (vM : Ob) (x1 : Int32) (x2 : Int32) (x3 : Int32) (x4 : Int32) (x5 : Int32) (res : Int32) (h : m_X6_leads vM x1 x2 x3 x4 x5 = some res) : Ct l yX6_leads wsX6_leads rm_X6_leads G cI cZ [.ref (aM 0), .int x1, .int x2, .int x3, .int x4, .int x5] [oX6 aM vM vT, ai cI (aM 1) 70 (vM 1), ai cI (aM 3) 40 (vM 3), ai cI (aM 18) 427 (vM 18)] (some (.int res)) [oX6 aM vM vT, ai cI (aM 1) 70 (vM 1), ai cI (aM 3) 40 (vM 3), ai cI (aM 18) 427 (vM 18)] := by
  refine Ct.of_z (maxL := 8) (by decide) rfl (Nat.le_of_ble_eq_true rfl) ?_
  intro p e s m below meth c args hx hb hml hown hts A hA hEN hP hD hS Q hRet ls hl
  have hown : s.vm.findClass RX6 = some m.cls := hown
  have hl : lv_has ls 8 [(0, .ref (aM 0)), (1, .int x1), (2, .int x2), (3, .int x3), (4, .int x4), (5, .int x5)] := hl
  unfold m_X6_leads at h
  refine lv_iload_n hx hb dX6_leads_0 rfl (lv_at hl 1 rfl) ?_
  refine lv_aload_n hx hb dX6_leads_1 rfl (lv_at hl 0 rfl) ?_
  refine va_get (D := G) (ci := 6) (v := .ref (aM 1)) (C := RX6) (T := TX6) (N := 29) hx hb hts fi_X6_leads_X6 hown hEN.1 hP 0 rfl rfl 0 (by decide) (hts (.fieldLink RX6 7 "HourWellModel" "tale" "[I") (List.mem_of_getElem? (i := 1) rfl)) (fun _ h9 => h9) rfl dX6_leads_2 ?_
  refine lv_bipush (v := (43 : Int32)) hx hb dX6_leads_5 k_bipush_43 ?_
  refine lv_iload hx hb dX6_leads_7 (lv_at hl 4 rfl) ?_
  refine lv_iadd hx hb dX6_leads_9 ?_
  obtain ⟨hg10, h⟩ := grd_some h
  refine va_iald (f := (vM 1)) hx hb hEN.1 hP 1 0 rfl rfl (inb_in hg10) dX6_leads_10 ?_
  refine lv_iadd hx hb dX6_leads_11 ?_
  refine lv_istore (lv' := [(6, .int (x1 + ((vM 1) (Int32.toNatClampNeg ((43 : Int32) + x4))))), (0, .ref (aM 0)), (1, .int x1), (2, .int x2), (3, .int x3), (4, .int x4), (5, .int x5)]) hx hb dX6_leads_12 hl (by decide) rfl (fun ls hl => ?_)
  refine lv_iload hx hb dX6_leads_14 (lv_at hl 5 rfl) ?_
  refine lv_aload_n hx hb dX6_leads_16 rfl (lv_at hl 1 rfl) ?_
  refine va_get (D := G) (ci := 6) (v := .int (vM 0 18)) (C := RX6) (T := TX6) (N := 29) hx hb hts fi_X6_leads_X6 hown hEN.1 hP 0 rfl rfl 18 (by decide) (hts (.fieldLink RX6 191 "HourWellModel" "noRoad" "I") (List.mem_of_getElem? (i := 2) rfl)) (fun _ h9 => h9) rfl dX6_leads_17 ?_
  refine lv_icmp_eq (tgt := 30) hx hb dX6_leads_20 (by decide) (fun c20 => ?_) (fun c20 => ?_)
  · have h := (if_pos c20).symm.trans h
    refine lv_iconst (v := (0 : Int32)) hx hb dX6_leads_30 k_iconst_0 ?_
    have hres := Option.some.inj h
    subst hres
    exact hRet 31 nz0 _ _ _ hP hD hS dX6_leads_31
  · have h := (if_neg c20).symm.trans h
    refine lv_iload hx hb dX6_leads_23 (lv_at hl 0 rfl) ?_
    refine lv_iload hx hb dX6_leads_25 (lv_at hl 6 rfl) ?_
    refine lv_icmp_le (tgt := 32) hx hb dX6_leads_27 (by decide) (fun c27 => ?_) (fun c27 => ?_)
    · have h := (if_pos c27).symm.trans h
      refine lv_aload_n hx hb dX6_leads_32 rfl (lv_at hl 1 rfl) ?_
      refine lv_iload hx hb dX6_leads_33 (lv_at hl 5 rfl) ?_
      refine lv_iload_n hx hb dX6_leads_35 rfl (lv_at hl 3 rfl) ?_
      refine lv_aload_n hx hb dX6_leads_36 rfl (lv_at hl 1 rfl) ?_
      refine va_get (D := G) (ci := 6) (v := .ref (aM 3)) (C := RX6) (T := TX6) (N := 29) hx hb hts fi_X6_leads_X6 hown hEN.1 hP 0 rfl rfl 2 (by decide) (hts (.fieldLink RX6 16 "HourWellModel" "he" "[I") (List.mem_of_getElem? (i := 3) rfl)) (fun _ h9 => h9) rfl dX6_leads_37 ?_
      refine lv_iconst (v := (1 : Int32)) hx hb dX6_leads_40 k_iconst_1 ?_
      refine va_iald (f := (vM 3)) hx hb hEN.1 hP 2 0 rfl rfl (inb_in (i := (1 : Int32)) (n := 40) rfl) dX6_leads_41 ?_
      refine lv_iload hx hb dX6_leads_42 (lv_at hl 0 rfl) ?_
      refine lv_iadd hx hb dX6_leads_44 ?_
      refine lv_iload_n hx hb dX6_leads_45 rfl (lv_at hl 4 rfl) ?_
      obtain ⟨o46, ho46, h⟩ := bnd_some h
      refine call_V0 (As := [.int x4, .int x2, .int (((vM 3) (Int32.toNatClampNeg (1 : Int32))) + (x1 + ((vM 1) (Int32.toNatClampNeg ((43 : Int32) + x4))))), .int x3]) (rest := []) ⟨hx, hb, hml, hown, hts⟩ (c_X6_enters l G cI cZ aM vT vM x4 x2 (((vM 3) (Int32.toNatClampNeg (1 : Int32))) + (x1 + ((vM 1) (Int32.toNatClampNeg ((43 : Int32) + x4))))) x3 o46 ho46) (cwV 4 hts gX6_leads_X6_enters rfl rfl rfl hdV_X6_enters ⟨Nat.le_of_ble_eq_true rfl, Nat.le_of_ble_eq_true rfl⟩) hEN hA hP hD hS [0, 1] rfl (by decide) 0 rfl rfl rfl hl.1 rfl (Nat.le_of_ble_eq_true rfl) dX6_leads_46 ⟨Nat.le_of_ble_eq_true rfl, Nat.le_of_ble_eq_true rfl⟩ (fun H locs hP hS => ?_)
      refine lv_istore (lv' := [(7, .int o46), (6, .int (x1 + ((vM 1) (Int32.toNatClampNeg ((43 : Int32) + x4))))), (0, .ref (aM 0)), (1, .int x1), (2, .int x2), (3, .int x3), (4, .int x4), (5, .int x5)]) hx hb dX6_leads_49 hl (by decide) rfl (fun ls hl => ?_)
      refine lv_iload hx hb dX6_leads_51 (lv_at hl 0 rfl) ?_
      refine lv_if_lt (tgt := 78) hx hb dX6_leads_53 (by decide) (fun c53 => ?_) (fun c53 => ?_)
      · have h := (if_pos c53).symm.trans h
        refine lv_iconst (v := (0 : Int32)) hx hb dX6_leads_78 k_iconst_0 ?_
        have hres := Option.some.inj h
        subst hres
        exact hRet 79 nz0 _ _ _ hP hD hS dX6_leads_79
      · have h := (if_neg c53).symm.trans h
        refine lv_aload_n hx hb dX6_leads_56 rfl (lv_at hl 2 rfl) ?_
        refine lv_iload hx hb dX6_leads_57 (lv_at hl 1 rfl) ?_
        refine lv_aload_n hx hb dX6_leads_59 rfl (lv_at hl 2 rfl) ?_
        refine lv_iload hx hb dX6_leads_60 (lv_at hl 6 rfl) ?_
        refine lv_iload_n hx hb dX6_leads_62 rfl (lv_at hl 4 rfl) ?_
        obtain ⟨o63, ho63, h⟩ := bnd_some h
        refine call_V0 (As := [.int x4, .int x2]) (rest := [.int (x1 + ((vM 1) (Int32.toNatClampNeg ((43 : Int32) + x4)))), .ref (aM 0)]) ⟨hx, hb, hml, hown, hts⟩ (c_X6_otherEnd l G cI cZ aM vT vM x4 x2 o63 ho63) (cwV 2 hts gX6_leads_X6_otherEnd rfl rfl rfl hdV_X6_otherEnd ⟨Nat.le_of_ble_eq_true rfl, Nat.le_of_ble_eq_true rfl⟩) hEN hA hP hD hS [0, 1] rfl (by decide) 0 rfl rfl rfl hl.1 rfl (Nat.le_of_ble_eq_true rfl) dX6_leads_63 ⟨Nat.le_of_ble_eq_true rfl, Nat.le_of_ble_eq_true rfl⟩ (fun H locs hP hS => ?_)
        refine lv_iload hx hb dX6_leads_66 (lv_at hl 0 rfl) ?_
        obtain ⟨o68, ho68, h⟩ := bnd_some h
        refine call_V0 (As := [.int (x1 + ((vM 1) (Int32.toNatClampNeg ((43 : Int32) + x4)))), .int o63, .int o46]) (rest := []) ⟨hx, hb, hml, hown, hts⟩ (c_X6_canBe l G cI cZ aM vT vM (x1 + ((vM 1) (Int32.toNatClampNeg ((43 : Int32) + x4)))) o63 o46 o68 ho68) (cwV 3 hts gX6_leads_X6_canBe rfl rfl rfl hdV_X6_canBe ⟨Nat.le_of_ble_eq_true rfl, Nat.le_of_ble_eq_true rfl⟩) hEN hA hP hD hS [0, 3] rfl (by decide) 0 rfl rfl rfl hl.1 rfl (Nat.le_of_ble_eq_true rfl) dX6_leads_68 ⟨Nat.le_of_ble_eq_true rfl, Nat.le_of_ble_eq_true rfl⟩ (fun H locs hP hS => ?_)
        refine lv_if_eq (tgt := 78) hx hb dX6_leads_71 (by decide) (fun c71 => ?_) (fun c71 => ?_)
        · have h := (if_pos c71).symm.trans h
          refine lv_iconst (v := (0 : Int32)) hx hb dX6_leads_78 k_iconst_0 ?_
          have hres := Option.some.inj h
          subst hres
          exact hRet 79 nz0 _ _ _ hP hD hS dX6_leads_79
        · have h := (if_neg c71).symm.trans h
          refine lv_iconst (v := (1 : Int32)) hx hb dX6_leads_74 k_iconst_1 ?_
          refine lv_goto (tgt := 79) hx hb dX6_leads_75 (by decide) ?_
          have hres := Option.some.inj h
          subst hres
          exact hRet 79 nz1 _ _ _ hP hD hS dX6_leads_79
    · have h := (if_neg c27).symm.trans h
      refine lv_iconst (v := (0 : Int32)) hx hb dX6_leads_30 k_iconst_0 ?_
      have hres := Option.some.inj h
      subst hres
      exact hRet 31 nz0 _ _ _ hP hD hS dX6_leads_31
abbrev rm_X6_asksOn : Room := { frames := 2, cells := 0, slots := 0, locals := 46 }
theorem fi_X6_asksOn_X6 : ∀ w ∈ wsX60, w ∈ wsX6_asksOn := fun _ h => List.mem_cons_of_mem _ (List.mem_append_right _ h)
theorem hdV_X6_asksOn : yX6_asksOn.cls = RX6 ∧ yX6_asksOn.cls ≠ "java/lang/invoke/MethodHandle" ∧ yX6_asksOn.cls ≠ "java/lang/invoke/VarHandle" ∧ (parseMethodDescriptor yX6_asksOn.desc).map (fun d => d.parameters.length) = some 4 := by decide +kernel
set_option maxRecDepth 100000 in
set_option maxHeartbeats 4000000 in
theorem c_X6_asksOn (l : Launch) (G : va_G) (cI cZ : ClassId) (aM : Nat → Nat) (vT : Int64) (vM : Ob) (x1 : Int32) (x2 : Int32) (x3 : Int32) (x4 : Int32) (res : Int32) (h : m_X6_asksOn vM x1 x2 x3 x4 = some res) : Ct l yX6_asksOn wsX6_asksOn rm_X6_asksOn G cI cZ [.ref (aM 0), .int x1, .int x2, .int x3, .int x4] [oX6 aM vM vT, ai cI (aM 1) 70 (vM 1), ai cI (aM 18) 427 (vM 18)] (some (.int res)) [oX6 aM vM vT, ai cI (aM 1) 70 (vM 1), ai cI (aM 18) 427 (vM 18)] := by
  refine Ct.of_z (maxL := 6) (by decide) rfl (Nat.le_of_ble_eq_true rfl) ?_
  intro p e s m below meth c args hx hb hml hown hts A hA hEN hP hD hS Q hRet ls hl
  have hown : s.vm.findClass RX6 = some m.cls := hown
  have hl : lv_has ls 6 [(0, .ref (aM 0)), (1, .int x1), (2, .int x2), (3, .int x3), (4, .int x4)] := hl
  have j21 : ∀ (x1 : Int32) (x2 : Int32) (s0 : Int32), m_X6_asksOn_j21 vM x1 x2 s0 = some res → ∀ (H : Heap) (locs : List Loc) (ls : Array Slot), va_P G vwCl [oX6 aM vM vT, ai cI (aM 1) 70 (vM 1), ai cI (aM 18) 427 (vM 18)] H → va_D A [oX6 aM vM vT, ai cI (aM 1) 70 (vM 1), ai cI (aM 18) 427 (vM 18)] → va_S A s.heap H locs → lv_has ls 6 [(0, .ref (aM 0)), (1, .int x1), (2, .int x2)] → W p l e rm_X6_asksOn s m args below meth c H locs 0 0 Q (F0 m 21 ls [.int s0]) := by
    intro x1 x2 s0 h H locs ls hP hD hS hl
    unfold m_X6_asksOn_j21 at h
    refine lv_istore (lv' := [(5, .int s0), (0, .ref (aM 0)), (1, .int x1), (2, .int x2)]) hx hb dX6_asksOn_21 hl (by decide) rfl (fun ls hl => ?_)
    refine lv_iload hx hb dX6_asksOn_23 (lv_at hl 0 rfl) ?_
    refine lv_if_lt (tgt := 43) hx hb dX6_asksOn_25 (by decide) (fun c25 => ?_) (fun c25 => ?_)
    · have h := (if_pos c25).symm.trans h
      refine lv_iconst (v := (0 : Int32)) hx hb dX6_asksOn_43 k_iconst_0 ?_
      have hres := Option.some.inj h
      subst hres
      exact hRet 44 nz0 _ _ _ hP hD hS dX6_asksOn_44
    · have h := (if_neg c25).symm.trans h
      refine lv_aload_n hx hb dX6_asksOn_28 rfl (lv_at hl 1 rfl) ?_
      refine lv_iload_n hx hb dX6_asksOn_29 rfl (lv_at hl 2 rfl) ?_
      refine lv_iload_n hx hb dX6_asksOn_30 rfl (lv_at hl 3 rfl) ?_
      refine lv_iload hx hb dX6_asksOn_31 (lv_at hl 0 rfl) ?_
      obtain ⟨o33, ho33, h⟩ := bnd_some h
      refine call_V0 (As := [.int x1, .int x2, .int s0]) (rest := []) ⟨hx, hb, hml, hown, hts⟩ (c_X6_canBe l G cI cZ aM vT vM x1 x2 s0 o33 ho33) (cwV 3 hts gX6_asksOn_X6_canBe rfl rfl rfl hdV_X6_canBe ⟨Nat.le_of_ble_eq_true rfl, Nat.le_of_ble_eq_true rfl⟩) hEN hA hP hD hS [0, 2] rfl (by decide) 0 rfl rfl rfl hl.1 rfl (Nat.le_of_ble_eq_true rfl) dX6_asksOn_33 ⟨Nat.le_of_ble_eq_true rfl, Nat.le_of_ble_eq_true rfl⟩ (fun H locs hP hS => ?_)
      refine lv_if_eq (tgt := 43) hx hb dX6_asksOn_36 (by decide) (fun c36 => ?_) (fun c36 => ?_)
      · have h := (if_pos c36).symm.trans h
        refine lv_iconst (v := (0 : Int32)) hx hb dX6_asksOn_43 k_iconst_0 ?_
        have hres := Option.some.inj h
        subst hres
        exact hRet 44 nz0 _ _ _ hP hD hS dX6_asksOn_44
      · have h := (if_neg c36).symm.trans h
        refine lv_iconst (v := (1 : Int32)) hx hb dX6_asksOn_39 k_iconst_1 ?_
        refine lv_goto (tgt := 44) hx hb dX6_asksOn_40 (by decide) ?_
        have hres := Option.some.inj h
        subst hres
        exact hRet 44 nz1 _ _ _ hP hD hS dX6_asksOn_44
  unfold m_X6_asksOn at h
  refine lv_iload hx hb dX6_asksOn_0 (lv_at hl 4 rfl) ?_
  refine lv_aload_n hx hb dX6_asksOn_2 rfl (lv_at hl 0 rfl) ?_
  refine va_get (D := G) (ci := 6) (v := .int (vM 0 19)) (C := RX6) (T := TX6) (N := 29) hx hb hts fi_X6_asksOn_X6 hown hEN.1 hP 0 rfl rfl 19 (by decide) (hts (.fieldLink RX6 194 "HourWellModel" "noHost" "I") (List.mem_of_getElem? (i := 1) rfl)) (fun _ h9 => h9) rfl dX6_asksOn_3 ?_
  refine lv_icmp_ne (tgt := 13) hx hb dX6_asksOn_6 (by decide) (fun c6 => ?_) (fun c6 => ?_)
  · have h := (if_neg c6).symm.trans h
    refine lv_aload_n hx hb dX6_asksOn_13 rfl (lv_at hl 0 rfl) ?_
    refine lv_iload hx hb dX6_asksOn_14 (lv_at hl 4 rfl) ?_
    refine lv_iload_n hx hb dX6_asksOn_16 rfl (lv_at hl 2 rfl) ?_
    refine lv_iload_n hx hb dX6_asksOn_17 rfl (lv_at hl 3 rfl) ?_
    obtain ⟨o18, ho18, h⟩ := bnd_some h
    refine call_V0 (As := [.int x4, .int x2, .int x3]) (rest := []) ⟨hx, hb, hml, hown, hts⟩ (c_X6_given l G cI cZ aM vT vM x4 x2 x3 o18 ho18) (cwV 3 hts gX6_asksOn_X6_given rfl rfl rfl hdV_X6_given ⟨Nat.le_of_ble_eq_true rfl, Nat.le_of_ble_eq_true rfl⟩) hEN hA hP hD hS [0, 1] rfl (by decide) 0 rfl rfl rfl hl.1 rfl (Nat.le_of_ble_eq_true rfl) dX6_asksOn_18 ⟨Nat.le_of_ble_eq_true rfl, Nat.le_of_ble_eq_true rfl⟩ (fun H locs hP hS => ?_)
    exact j21 x1 x2 o18 h _ _ _ hP hD hS (lv_sub hl [0, 1, 2] rfl)
  · have h := (if_pos c6).symm.trans h
    refine lv_iconst (v := (-1 : Int32)) hx hb dX6_asksOn_9 k_iconst_n1 ?_
    refine lv_goto (tgt := 21) hx hb dX6_asksOn_10 (by decide) ?_
    exact j21 x1 x2 (-1 : Int32) h _ _ _ hP hD hS (lv_sub hl [0, 1, 2] rfl)
