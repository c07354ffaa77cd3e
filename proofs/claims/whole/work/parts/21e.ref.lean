abbrev rm_X6_keep : Room := { frames := 2, cells := 0, slots := 0, locals := 45 }
theorem fi_X6_keep_X6 : ∀ w ∈ wsX60, w ∈ wsX6_keep := fun _ h => List.mem_cons_of_mem _ (List.mem_append_right _ h)
theorem hdV_X6_keep : yX6_keep.cls = RX6 ∧ yX6_keep.cls ≠ "java/lang/invoke/MethodHandle" ∧ yX6_keep.cls ≠ "java/lang/invoke/VarHandle" ∧ (parseMethodDescriptor yX6_keep.desc).map (fun d => d.parameters.length) = some 1 := by decide +kernel
set_option maxRecDepth 100000 in
set_option maxHeartbeats 4000000 in
theorem c_X6_keep (l : Launch) (G : va_G) (cI cZ : ClassId) (aM : Nat → Nat) (vT : Int64) (vM : Ob) (x1 : Int32) (res : Int32 × Ob) (h : m_X6_keep vM x1 = some res) : Ct l yX6_keep wsX6_keep rm_X6_keep G cI cZ [.ref (aM 0), .int x1] [oX6 aM vM vT, ai cI (aM 1) 70 (vM 1), ai cI (aM 2) 70 (vM 2), ai cI (aM 3) 40 (vM 3), ai cI (aM 4) 80 (vM 4), ai cZ (aM 5) 2 (vM 5), ai cI (aM 6) 200 (vM 6), ai cI (aM 8) 12 (vM 8), ai cI (aM 10) 12 (vM 10), ai cI (aM 18) 427 (vM 18), ai cI (aM 21) 100 (vM 21), ai cI (aM 23) 100 (vM 23), ai cI (aM 24) 100 (vM 24), ai cI (aM 26) 7 (vM 26), ai cI (aM 27) 5 (vM 27), ai cI (aM 28) 64 (vM 28)] (some (.int res.1)) [oX6 aM res.2 vT, ai cI (aM 1) 70 (res.2 1), ai cI (aM 2) 70 (res.2 2), ai cI (aM 3) 40 (res.2 3), ai cI (aM 4) 80 (res.2 4), ai cZ (aM 5) 2 (res.2 5), ai cI (aM 6) 200 (res.2 6), ai cI (aM 8) 12 (res.2 8), ai cI (aM 10) 12 (res.2 10), ai cI (aM 18) 427 (res.2 18), ai cI (aM 21) 100 (res.2 21), ai cI (aM 23) 100 (res.2 23), ai cI (aM 24) 100 (res.2 24), ai cI (aM 26) 7 (res.2 26), ai cI (aM 27) 5 (res.2 27), ai cI (aM 28) 64 (res.2 28)] := by
  refine Ct.of_i (maxL := 3) (by decide) rfl (Nat.le_of_ble_eq_true rfl) ?_
  intro p e s m below meth c args hx hb hml hown hts A hA hEN hP hD hS Q hRet ls hl
  have hown : s.vm.findClass RX6 = some m.cls := hown
  have hl : lv_has ls 3 [(0, .ref (aM 0)), (1, .int x1)] := hl
  have L11 : ∀ (out : Ob × Int32), (∀ ex : Ob × Int32, out = ex → ∀ (H : Heap) (locs : List Loc) (ls : Array Slot), va_P G vwCl [oX6 aM ex.1 vT, ai cI (aM 1) 70 (ex.1 1), ai cI (aM 2) 70 (ex.1 2), ai cI (aM 3) 40 (ex.1 3), ai cI (aM 4) 80 (ex.1 4), ai cZ (aM 5) 2 (ex.1 5), ai cI (aM 6) 200 (ex.1 6), ai cI (aM 8) 12 (ex.1 8), ai cI (aM 10) 12 (ex.1 10), ai cI (aM 18) 427 (ex.1 18), ai cI (aM 21) 100 (ex.1 21), ai cI (aM 23) 100 (ex.1 23), ai cI (aM 24) 100 (ex.1 24), ai cI (aM 26) 7 (ex.1 26), ai cI (aM 27) 5 (ex.1 27), ai cI (aM 28) 64 (ex.1 28)] H → va_D A [oX6 aM ex.1 vT, ai cI (aM 1) 70 (ex.1 1), ai cI (aM 2) 70 (ex.1 2), ai cI (aM 3) 40 (ex.1 3), ai cI (aM 4) 80 (ex.1 4), ai cZ (aM 5) 2 (ex.1 5), ai cI (aM 6) 200 (ex.1 6), ai cI (aM 8) 12 (ex.1 8), ai cI (aM 10) 12 (ex.1 10), ai cI (aM 18) 427 (ex.1 18), ai cI (aM 21) 100 (ex.1 21), ai cI (aM 23) 100 (ex.1 23), ai cI (aM 24) 100 (ex.1 24), ai cI (aM 26) 7 (ex.1 26), ai cI (aM 27) 5 (ex.1 27), ai cI (aM 28) 64 (ex.1 28)] → va_S A s.heap H locs → lv_has ls 3 [(0, .ref (aM 0)), (1, .int ex.2)] → W p l e rm_X6_keep s m args below meth c H locs 0 0 Q (F0 m 40 ls [])) → ∀ (n : Nat) (vM : Ob) (x1 : Int32) (x2 : Int32), m_X6_keep_L11  n vM x1 x2 = some out → ∀ (H : Heap) (locs : List Loc) (ls : Array Slot), va_P G vwCl [oX6 aM vM vT, ai cI (aM 1) 70 (vM 1), ai cI (aM 2) 70 (vM 2), ai cI (aM 3) 40 (vM 3), ai cI (aM 4) 80 (vM 4), ai cZ (aM 5) 2 (vM 5), ai cI (aM 6) 200 (vM 6), ai cI (aM 8) 12 (vM 8), ai cI (aM 10) 12 (vM 10), ai cI (aM 18) 427 (vM 18), ai cI (aM 21) 100 (vM 21), ai cI (aM 23) 100 (vM 23), ai cI (aM 24) 100 (vM 24), ai cI (aM 26) 7 (vM 26), ai cI (aM 27) 5 (vM 27), ai cI (aM 28) 64 (vM 28)] H → va_D A [oX6 aM vM vT, ai cI (aM 1) 70 (vM 1), ai cI (aM 2) 70 (vM 2), ai cI (aM 3) 40 (vM 3), ai cI (aM 4) 80 (vM 4), ai cZ (aM 5) 2 (vM 5), ai cI (aM 6) 200 (vM 6), ai cI (aM 8) 12 (vM 8), ai cI (aM 10) 12 (vM 10), ai cI (aM 18) 427 (vM 18), ai cI (aM 21) 100 (vM 21), ai cI (aM 23) 100 (vM 23), ai cI (aM 24) 100 (vM 24), ai cI (aM 26) 7 (vM 26), ai cI (aM 27) 5 (vM 27), ai cI (aM 28) 64 (vM 28)] → va_S A s.heap H locs → lv_has ls 3 [(0, .ref (aM 0)), (1, .int x1), (2, .int x2)] → W p l e rm_X6_keep s m args below meth c H locs 0 0 Q (F0 m 11 ls []) := by
    intro out hKx
    intro n
    induction n with
    | zero => intro vM x1 x2 h; exact nomatch (show (none : Option (Ob × Int32)) = some out from h)
    | succ n hrc =>
      intro vM x1 x2 h H locs ls hP hD hS hl
      have h : m_X6_keep_L11B  (m_X6_keep_L11  n) vM x1 x2 = some out := h
      generalize m_X6_keep_L11  n = rc at h hrc
      unfold m_X6_keep_L11B at h
      refine lv_iload_n hx hb dX6_keep_11 rfl (lv_at hl 2 rfl) ?_
      refine lv_bipush (v := (40 : Int32)) hx hb dX6_keep_12 k_bipush_40 ?_
      refine lv_icmp_ge (tgt := 40) hx hb dX6_keep_14 (by decide) (fun c14 => ?_) (fun c14 => ?_)
      · have h := (if_pos c14).symm.trans h
        exact hKx _ (Option.some.inj h).symm _ _ _ hP hD hS (lv_sub hl [0, 1] rfl)
      · have h := (if_neg c14).symm.trans h
        refine lv_aload_n hx hb dX6_keep_17 rfl (lv_at hl 0 rfl) ?_
        refine va_get (D := G) (ci := 6) (v := .ref (aM 4)) (C := RX6) (T := TX6) (N := 29) hx hb hts fi_X6_keep_X6 hown hEN.1 hP 0 rfl rfl 3 (by decide) (hts (.fieldLink RX6 19 "HourWellModel" "images" "[I") (List.mem_of_getElem? (i := 1) rfl)) (fun _ h9 => h9) rfl dX6_keep_18 ?_
        refine lv_bipush (v := (40 : Int32)) hx hb dX6_keep_21 k_bipush_40 ?_
        refine lv_iload_n hx hb dX6_keep_23 rfl (lv_at hl 1 rfl) ?_
        refine lv_imul hx hb dX6_keep_24 ?_
        refine lv_iload_n hx hb dX6_keep_25 rfl (lv_at hl 2 rfl) ?_
        refine lv_iadd hx hb dX6_keep_26 ?_
        refine lv_aload_n hx hb dX6_keep_27 rfl (lv_at hl 0 rfl) ?_
        refine va_get (D := G) (ci := 6) (v := .ref (aM 3)) (C := RX6) (T := TX6) (N := 29) hx hb hts fi_X6_keep_X6 hown hEN.1 hP 0 rfl rfl 2 (by decide) (hts (.fieldLink RX6 16 "HourWellModel" "he" "[I") (List.mem_of_getElem? (i := 2) rfl)) (fun _ h9 => h9) rfl dX6_keep_28 ?_
        refine lv_iload_n hx hb dX6_keep_31 rfl (lv_at hl 2 rfl) ?_
        obtain ⟨hg32, h⟩ := grd_some h
        refine va_iald (f := (vM 3)) hx hb hEN.1 hP 3 0 rfl rfl (inb_in hg32) dX6_keep_32 ?_
        obtain ⟨hg33, h⟩ := grd_some h
        refine va_iast (f := (vM 4)) hx hb hEN.1 hP hD hS 4 0 rfl rfl (inb_in hg33) dX6_keep_33 (fun H locs hP hD hS => ?_)
        have hP : va_P G vwCl [oX6 aM vM vT, ai cI (aM 1) 70 (vM 1), ai cI (aM 2) 70 (vM 2), ai cI (aM 3) 40 (vM 3), ai cI (aM 4) 80 (upd (vM 4) (Int32.toNatClampNeg (((40 : Int32) * x1) + x2)) ((vM 3) (Int32.toNatClampNeg x2))), ai cZ (aM 5) 2 (vM 5), ai cI (aM 6) 200 (vM 6), ai cI (aM 8) 12 (vM 8), ai cI (aM 10) 12 (vM 10), ai cI (aM 18) 427 (vM 18), ai cI (aM 21) 100 (vM 21), ai cI (aM 23) 100 (vM 23), ai cI (aM 24) 100 (vM 24), ai cI (aM 26) 7 (vM 26), ai cI (aM 27) 5 (vM 27), ai cI (aM 28) 64 (vM 28)] H := hP
        have hD : va_D A [oX6 aM vM vT, ai cI (aM 1) 70 (vM 1), ai cI (aM 2) 70 (vM 2), ai cI (aM 3) 40 (vM 3), ai cI (aM 4) 80 (upd (vM 4) (Int32.toNatClampNeg (((40 : Int32) * x1) + x2)) ((vM 3) (Int32.toNatClampNeg x2))), ai cZ (aM 5) 2 (vM 5), ai cI (aM 6) 200 (vM 6), ai cI (aM 8) 12 (vM 8), ai cI (aM 10) 12 (vM 10), ai cI (aM 18) 427 (vM 18), ai cI (aM 21) 100 (vM 21), ai cI (aM 23) 100 (vM 23), ai cI (aM 24) 100 (vM 24), ai cI (aM 26) 7 (vM 26), ai cI (aM 27) 5 (vM 27), ai cI (aM 28) 64 (vM 28)] := hD
        refine lv_iinc (v := (x2 + (1 : Int32))) (lv' := [(2, .int (x2 + (1 : Int32))), (0, .ref (aM 0)), (1, .int x1)]) hx hb dX6_keep_34 hl (k := 2) rfl (congrArg (fun z => x2 + z) k_iconst_1) (by decide) rfl (fun ls hl => ?_)
        refine lv_goto (tgt := 11) hx hb dX6_keep_37 (by decide) ?_
        exact hrc (st vM 4 (Int32.toNatClampNeg (((40 : Int32) * x1) + x2)) ((vM 3) (Int32.toNatClampNeg x2))) x1 (x2 + (1 : Int32)) h _ _ _ hP hD hS (lv_sub hl [1, 2, 0] rfl)
  unfold m_X6_keep at h
  refine lv_iload_n hx hb dX6_keep_0 rfl (lv_at hl 1 rfl) ?_
  obtain ⟨o1, ho1, h⟩ := bnd_some h
  refine call_S0 (As := [.int x1]) (rest := []) ⟨hx, hb, hml, hown, hts⟩ (c_X6_isTwo l G cI cZ  x1 o1 ho1) (va_cwS 1 hts gX6_keep_X6_isTwo rfl rfl rfl hdS_X6_isTwo ⟨Nat.le_of_ble_eq_true rfl, Nat.le_of_ble_eq_true rfl⟩) hEN hA hP hD hS [] rfl (by decide) rfl hl.1 rfl (Nat.le_of_ble_eq_true rfl) dX6_keep_1 ⟨Nat.le_of_ble_eq_true rfl, Nat.le_of_ble_eq_true rfl⟩ (fun H locs hP hS => ?_)
  refine lv_if_ne (tgt := 9) hx hb dX6_keep_4 (by decide) (fun c4 => ?_) (fun c4 => ?_)
  · have h := (if_neg c4).symm.trans h
    refine lv_iconst (v := (0 : Int32)) hx hb dX6_keep_9 k_iconst_0 ?_
    refine lv_istore_n (lv' := [(2, .int (0 : Int32)), (0, .ref (aM 0)), (1, .int x1)]) hx hb dX6_keep_10 rfl hl (by decide) rfl (fun ls hl => ?_)
    obtain ⟨o11_1, ho11_1, h⟩ := bnd_some h
    refine L11 o11_1 (fun o11_1e er H locs ls hP hD hS hl => ?_) FU vM x1 (0 : Int32) ho11_1 _ _ _ hP hD hS (lv_sub hl [1, 2, 0] rfl)
    subst er
    refine lv_aload_n hx hb dX6_keep_40 rfl (lv_at hl 0 rfl) ?_
    refine va_get (D := G) (ci := 6) (v := .ref (aM 5)) (C := RX6) (T := TX6) (N := 29) hx hb hts fi_X6_keep_X6 hown hEN.1 hP 0 rfl rfl 4 (by decide) (hts (.fieldLink RX6 22 "HourWellModel" "kept" "[Z") (List.mem_of_getElem? (i := 3) rfl)) (fun _ h9 => h9) rfl dX6_keep_41 ?_
    refine lv_iload_n hx hb dX6_keep_44 rfl (lv_at hl 1 rfl) ?_
    refine lv_iconst (v := (1 : Int32)) hx hb dX6_keep_45 k_iconst_1 ?_
    obtain ⟨hg46, h⟩ := grd_some h
    refine va_zast (f := (o11_1.1 5)) hx hb hEN.1 hP hD hS 5 1 rfl rfl (inb_in hg46) dX6_keep_46 (fun H locs hP hD hS => ?_)
    have hP : va_P G vwCl [oX6 aM o11_1.1 vT, ai cI (aM 1) 70 (o11_1.1 1), ai cI (aM 2) 70 (o11_1.1 2), ai cI (aM 3) 40 (o11_1.1 3), ai cI (aM 4) 80 (o11_1.1 4), ai cZ (aM 5) 2 (upd (o11_1.1 5) (Int32.toNatClampNeg o11_1.2) (vp_nar .boolean (1 : Int32))), ai cI (aM 6) 200 (o11_1.1 6), ai cI (aM 8) 12 (o11_1.1 8), ai cI (aM 10) 12 (o11_1.1 10), ai cI (aM 18) 427 (o11_1.1 18), ai cI (aM 21) 100 (o11_1.1 21), ai cI (aM 23) 100 (o11_1.1 23), ai cI (aM 24) 100 (o11_1.1 24), ai cI (aM 26) 7 (o11_1.1 26), ai cI (aM 27) 5 (o11_1.1 27), ai cI (aM 28) 64 (o11_1.1 28)] H := hP
    have hD : va_D A [oX6 aM o11_1.1 vT, ai cI (aM 1) 70 (o11_1.1 1), ai cI (aM 2) 70 (o11_1.1 2), ai cI (aM 3) 40 (o11_1.1 3), ai cI (aM 4) 80 (o11_1.1 4), ai cZ (aM 5) 2 (upd (o11_1.1 5) (Int32.toNatClampNeg o11_1.2) (vp_nar .boolean (1 : Int32))), ai cI (aM 6) 200 (o11_1.1 6), ai cI (aM 8) 12 (o11_1.1 8), ai cI (aM 10) 12 (o11_1.1 10), ai cI (aM 18) 427 (o11_1.1 18), ai cI (aM 21) 100 (o11_1.1 21), ai cI (aM 23) 100 (o11_1.1 23), ai cI (aM 24) 100 (o11_1.1 24), ai cI (aM 26) 7 (o11_1.1 26), ai cI (aM 27) 5 (o11_1.1 27), ai cI (aM 28) 64 (o11_1.1 28)] := hD
    refine lv_aload_n hx hb dX6_keep_47 rfl (lv_at hl 0 rfl) ?_
    refine va_get (D := G) (ci := 6) (v := .ref (aM 3)) (C := RX6) (T := TX6) (N := 29) hx hb hts fi_X6_keep_X6 hown hEN.1 hP 0 rfl rfl 2 (by decide) (hts (.fieldLink RX6 16 "HourWellModel" "he" "[I") (List.mem_of_getElem? (i := 2) rfl)) (fun _ h9 => h9) rfl dX6_keep_48 ?_
    refine lv_iconst (v := (1 : Int32)) hx hb dX6_keep_51 k_iconst_1 ?_
    refine va_iald (f := (o11_1.1 3)) hx hb hEN.1 hP 3 0 rfl rfl (inb_in (i := (1 : Int32)) (n := 40) rfl) dX6_keep_52 ?_
    have hres := Option.some.inj h
    subst hres
    exact hRet 53 _ _ _ hP hD hS dX6_keep_53
  · have h := (if_pos c4).symm.trans h
    refine lv_iconst (v := (-1 : Int32)) hx hb dX6_keep_7 k_iconst_n1 ?_
    have hres := Option.some.inj h
    subst hres
    exact hRet 8 _ _ _ hP hD hS dX6_keep_8
abbrev rm_X6_back : Room := { frames := 2, cells := 0, slots := 0, locals := 45 }
theorem fi_X6_back_X6 : ∀ w ∈ wsX60, w ∈ wsX6_back := fun _ h => List.mem_cons_of_mem _ (List.mem_append_right _ h)
theorem hdV_X6_back : yX6_back.cls = RX6 ∧ yX6_back.cls ≠ "java/lang/invoke/MethodHandle" ∧ yX6_back.cls ≠ "java/lang/invoke/VarHandle" ∧ (parseMethodDescriptor yX6_back.desc).map (fun d => d.parameters.length) = some 1 := by decide +kernel
set_option maxRecDepth 100000 in
set_option maxHeartbeats 4000000 in
theorem c_X6_back (l : Launch) (G : va_G) (cI cZ : ClassId) (aM : Nat → Nat) (vT : Int64) (vM : Ob) (x1 : Int32) (res : Int32 × Ob) (h : m_X6_back vM x1 = some res) : Ct l yX6_back wsX6_back rm_X6_back G cI cZ [.ref (aM 0), .int x1] [oX6 aM vM vT, ai cI (aM 1) 70 (vM 1), ai cI (aM 2) 70 (vM 2), ai cI (aM 3) 40 (vM 3), ai cI (aM 4) 80 (vM 4), ai cZ (aM 5) 2 (vM 5), ai cI (aM 6) 200 (vM 6), ai cI (aM 8) 12 (vM 8), ai cI (aM 10) 12 (vM 10), ai cI (aM 18) 427 (vM 18), ai cI (aM 21) 100 (vM 21), ai cI (aM 23) 100 (vM 23), ai cI (aM 24) 100 (vM 24), ai cI (aM 26) 7 (vM 26), ai cI (aM 27) 5 (vM 27), ai cI (aM 28) 64 (vM 28)] (some (.int res.1)) [oX6 aM res.2 vT, ai cI (aM 1) 70 (res.2 1), ai cI (aM 2) 70 (res.2 2), ai cI (aM 3) 40 (res.2 3), ai cI (aM 4) 80 (res.2 4), ai cZ (aM 5) 2 (res.2 5), ai cI (aM 6) 200 (res.2 6), ai cI (aM 8) 12 (res.2 8), ai cI (aM 10) 12 (res.2 10), ai cI (aM 18) 427 (res.2 18), ai cI (aM 21) 100 (res.2 21), ai cI (aM 23) 100 (res.2 23), ai cI (aM 24) 100 (res.2 24), ai cI (aM 26) 7 (res.2 26), ai cI (aM 27) 5 (res.2 27), ai cI (aM 28) 64 (res.2 28)] := by
  refine Ct.of_i (maxL := 3) (by decide) rfl (Nat.le_of_ble_eq_true rfl) ?_
  intro p e s m below meth c args hx hb hml hown hts A hA hEN hP hD hS Q hRet ls hl
  have hown : s.vm.findClass RX6 = some m.cls := hown
  have hl : lv_has ls 3 [(0, .ref (aM 0)), (1, .int x1)] := hl
  have L23 : ∀ (out : Ob), (∀ ex : Ob, out = ex → ∀ (H : Heap) (locs : List Loc) (ls : Array Slot), va_P G vwCl [oX6 aM ex vT, ai cI (aM 1) 70 (ex 1), ai cI (aM 2) 70 (ex 2), ai cI (aM 3) 40 (ex 3), ai cI (aM 4) 80 (ex 4), ai cZ (aM 5) 2 (ex 5), ai cI (aM 6) 200 (ex 6), ai cI (aM 8) 12 (ex 8), ai cI (aM 10) 12 (ex 10), ai cI (aM 18) 427 (ex 18), ai cI (aM 21) 100 (ex 21), ai cI (aM 23) 100 (ex 23), ai cI (aM 24) 100 (ex 24), ai cI (aM 26) 7 (ex 26), ai cI (aM 27) 5 (ex 27), ai cI (aM 28) 64 (ex 28)] H → va_D A [oX6 aM ex vT, ai cI (aM 1) 70 (ex 1), ai cI (aM 2) 70 (ex 2), ai cI (aM 3) 40 (ex 3), ai cI (aM 4) 80 (ex 4), ai cZ (aM 5) 2 (ex 5), ai cI (aM 6) 200 (ex 6), ai cI (aM 8) 12 (ex 8), ai cI (aM 10) 12 (ex 10), ai cI (aM 18) 427 (ex 18), ai cI (aM 21) 100 (ex 21), ai cI (aM 23) 100 (ex 23), ai cI (aM 24) 100 (ex 24), ai cI (aM 26) 7 (ex 26), ai cI (aM 27) 5 (ex 27), ai cI (aM 28) 64 (ex 28)] → va_S A s.heap H locs → lv_has ls 3 [(0, .ref (aM 0))] → W p l e rm_X6_back s m args below meth c H locs 0 0 Q (F0 m 52 ls [])) → ∀ (n : Nat) (vM : Ob) (x1 : Int32) (x2 : Int32), m_X6_back_L23  n vM x1 x2 = some out → ∀ (H : Heap) (locs : List Loc) (ls : Array Slot), va_P G vwCl [oX6 aM vM vT, ai cI (aM 1) 70 (vM 1), ai cI (aM 2) 70 (vM 2), ai cI (aM 3) 40 (vM 3), ai cI (aM 4) 80 (vM 4), ai cZ (aM 5) 2 (vM 5), ai cI (aM 6) 200 (vM 6), ai cI (aM 8) 12 (vM 8), ai cI (aM 10) 12 (vM 10), ai cI (aM 18) 427 (vM 18), ai cI (aM 21) 100 (vM 21), ai cI (aM 23) 100 (vM 23), ai cI (aM 24) 100 (vM 24), ai cI (aM 26) 7 (vM 26), ai cI (aM 27) 5 (vM 27), ai cI (aM 28) 64 (vM 28)] H → va_D A [oX6 aM vM vT, ai cI (aM 1) 70 (vM 1), ai cI (aM 2) 70 (vM 2), ai cI (aM 3) 40 (vM 3), ai cI (aM 4) 80 (vM 4), ai cZ (aM 5) 2 (vM 5), ai cI (aM 6) 200 (vM 6), ai cI (aM 8) 12 (vM 8), ai cI (aM 10) 12 (vM 10), ai cI (aM 18) 427 (vM 18), ai cI (aM 21) 100 (vM 21), ai cI (aM 23) 100 (vM 23), ai cI (aM 24) 100 (vM 24), ai cI (aM 26) 7 (vM 26), ai cI (aM 27) 5 (vM 27), ai cI (aM 28) 64 (vM 28)] → va_S A s.heap H locs → lv_has ls 3 [(0, .ref (aM 0)), (1, .int x1), (2, .int x2)] → W p l e rm_X6_back s m args below meth c H locs 0 0 Q (F0 m 23 ls []) := by
    intro out hKx
    intro n
    induction n with
    | zero => intro vM x1 x2 h; exact nomatch (show (none : Option (Ob)) = some out from h)
    | succ n hrc =>
      intro vM x1 x2 h H locs ls hP hD hS hl
      have h : m_X6_back_L23B  (m_X6_back_L23  n) vM x1 x2 = some out := h
      generalize m_X6_back_L23  n = rc at h hrc
      unfold m_X6_back_L23B at h
      refine lv_iload_n hx hb dX6_back_23 rfl (lv_at hl 2 rfl) ?_
      refine lv_bipush (v := (40 : Int32)) hx hb dX6_back_24 k_bipush_40 ?_
      refine lv_icmp_ge (tgt := 52) hx hb dX6_back_26 (by decide) (fun c26 => ?_) (fun c26 => ?_)
      · have h := (if_pos c26).symm.trans h
        exact hKx _ (Option.some.inj h).symm _ _ _ hP hD hS (lv_sub hl [0] rfl)
      · have h := (if_neg c26).symm.trans h
        refine lv_aload_n hx hb dX6_back_29 rfl (lv_at hl 0 rfl) ?_
        refine va_get (D := G) (ci := 6) (v := .ref (aM 3)) (C := RX6) (T := TX6) (N := 29) hx hb hts fi_X6_back_X6 hown hEN.1 hP 0 rfl rfl 2 (by decide) (hts (.fieldLink RX6 16 "HourWellModel" "he" "[I") (List.mem_of_getElem? (i := 2) rfl)) (fun _ h9 => h9) rfl dX6_back_30 ?_
        refine lv_iload_n hx hb dX6_back_33 rfl (lv_at hl 2 rfl) ?_
        refine lv_aload_n hx hb dX6_back_34 rfl (lv_at hl 0 rfl) ?_
        refine va_get (D := G) (ci := 6) (v := .ref (aM 4)) (C := RX6) (T := TX6) (N := 29) hx hb hts fi_X6_back_X6 hown hEN.1 hP 0 rfl rfl 3 (by decide) (hts (.fieldLink RX6 19 "HourWellModel" "images" "[I") (List.mem_of_getElem? (i := 3) rfl)) (fun _ h9 => h9) rfl dX6_back_35 ?_
        refine lv_bipush (v := (40 : Int32)) hx hb dX6_back_38 k_bipush_40 ?_
        refine lv_iload_n hx hb dX6_back_40 rfl (lv_at hl 1 rfl) ?_
        refine lv_imul hx hb dX6_back_41 ?_
        refine lv_iload_n hx hb dX6_back_42 rfl (lv_at hl 2 rfl) ?_
        refine lv_iadd hx hb dX6_back_43 ?_
        obtain ⟨hg44, h⟩ := grd_some h
        refine va_iald (f := (vM 4)) hx hb hEN.1 hP 4 0 rfl rfl (inb_in hg44) dX6_back_44 ?_
        obtain ⟨hg45, h⟩ := grd_some h
        refine va_iast (f := (vM 3)) hx hb hEN.1 hP hD hS 3 0 rfl rfl (inb_in hg45) dX6_back_45 (fun H locs hP hD hS => ?_)
        have hP : va_P G vwCl [oX6 aM vM vT, ai cI (aM 1) 70 (vM 1), ai cI (aM 2) 70 (vM 2), ai cI (aM 3) 40 (upd (vM 3) (Int32.toNatClampNeg x2) ((vM 4) (Int32.toNatClampNeg (((40 : Int32) * x1) + x2)))), ai cI (aM 4) 80 (vM 4), ai cZ (aM 5) 2 (vM 5), ai cI (aM 6) 200 (vM 6), ai cI (aM 8) 12 (vM 8), ai cI (aM 10) 12 (vM 10), ai cI (aM 18) 427 (vM 18), ai cI (aM 21) 100 (vM 21), ai cI (aM 23) 100 (vM 23), ai cI (aM 24) 100 (vM 24), ai cI (aM 26) 7 (vM 26), ai cI (aM 27) 5 (vM 27), ai cI (aM 28) 64 (vM 28)] H := hP
        have hD : va_D A [oX6 aM vM vT, ai cI (aM 1) 70 (vM 1), ai cI (aM 2) 70 (vM 2), ai cI (aM 3) 40 (upd (vM 3) (Int32.toNatClampNeg x2) ((vM 4) (Int32.toNatClampNeg (((40 : Int32) * x1) + x2)))), ai cI (aM 4) 80 (vM 4), ai cZ (aM 5) 2 (vM 5), ai cI (aM 6) 200 (vM 6), ai cI (aM 8) 12 (vM 8), ai cI (aM 10) 12 (vM 10), ai cI (aM 18) 427 (vM 18), ai cI (aM 21) 100 (vM 21), ai cI (aM 23) 100 (vM 23), ai cI (aM 24) 100 (vM 24), ai cI (aM 26) 7 (vM 26), ai cI (aM 27) 5 (vM 27), ai cI (aM 28) 64 (vM 28)] := hD
        refine lv_iinc (v := (x2 + (1 : Int32))) (lv' := [(2, .int (x2 + (1 : Int32))), (0, .ref (aM 0)), (1, .int x1)]) hx hb dX6_back_46 hl (k := 2) rfl (congrArg (fun z => x2 + z) k_iconst_1) (by decide) rfl (fun ls hl => ?_)
        refine lv_goto (tgt := 23) hx hb dX6_back_49 (by decide) ?_
        exact hrc (st vM 3 (Int32.toNatClampNeg x2) ((vM 4) (Int32.toNatClampNeg (((40 : Int32) * x1) + x2)))) x1 (x2 + (1 : Int32)) h _ _ _ hP hD hS (lv_sub hl [1, 2, 0] rfl)
  unfold m_X6_back at h
  refine lv_iload_n hx hb dX6_back_0 rfl (lv_at hl 1 rfl) ?_
  obtain ⟨o1, ho1, h⟩ := bnd_some h
  refine call_S0 (As := [.int x1]) (rest := []) ⟨hx, hb, hml, hown, hts⟩ (c_X6_isTwo l G cI cZ  x1 o1 ho1) (va_cwS 1 hts gX6_back_X6_isTwo rfl rfl rfl hdS_X6_isTwo ⟨Nat.le_of_ble_eq_true rfl, Nat.le_of_ble_eq_true rfl⟩) hEN hA hP hD hS [] rfl (by decide) rfl hl.1 rfl (Nat.le_of_ble_eq_true rfl) dX6_back_1 ⟨Nat.le_of_ble_eq_true rfl, Nat.le_of_ble_eq_true rfl⟩ (fun H locs hP hS => ?_)
  refine lv_if_ne (tgt := 9) hx hb dX6_back_4 (by decide) (fun c4 => ?_) (fun c4 => ?_)
  · have h := (if_neg c4).symm.trans h
    refine lv_aload_n hx hb dX6_back_9 rfl (lv_at hl 0 rfl) ?_
    refine va_get (D := G) (ci := 6) (v := .ref (aM 5)) (C := RX6) (T := TX6) (N := 29) hx hb hts fi_X6_back_X6 hown hEN.1 hP 0 rfl rfl 4 (by decide) (hts (.fieldLink RX6 22 "HourWellModel" "kept" "[Z") (List.mem_of_getElem? (i := 1) rfl)) (fun _ h9 => h9) rfl dX6_back_10 ?_
    refine lv_iload_n hx hb dX6_back_13 rfl (lv_at hl 1 rfl) ?_
    obtain ⟨hg14, h⟩ := grd_some h
    refine va_zald (f := (vM 5)) hx hb hEN.1 hP 5 1 rfl rfl (inb_in hg14) dX6_back_14 ?_
    refine lv_if_ne (tgt := 21) hx hb dX6_back_15 (by decide) (fun c15 => ?_) (fun c15 => ?_)
    · have h := (if_neg c15).symm.trans h
      refine lv_iconst (v := (0 : Int32)) hx hb dX6_back_21 k_iconst_0 ?_
      refine lv_istore_n (lv' := [(2, .int (0 : Int32)), (0, .ref (aM 0)), (1, .int x1)]) hx hb dX6_back_22 rfl hl (by decide) rfl (fun ls hl => ?_)
      obtain ⟨o23_1, ho23_1, h⟩ := bnd_some h
      refine L23 o23_1 (fun o23_1e er H locs ls hP hD hS hl => ?_) FU vM x1 (0 : Int32) ho23_1 _ _ _ hP hD hS (lv_sub hl [1, 2, 0] rfl)
      subst er
      refine lv_aload_n hx hb dX6_back_52 rfl (lv_at hl 0 rfl) ?_
      refine va_get (D := G) (ci := 6) (v := .ref (aM 3)) (C := RX6) (T := TX6) (N := 29) hx hb hts fi_X6_back_X6 hown hEN.1 hP 0 rfl rfl 2 (by decide) (hts (.fieldLink RX6 16 "HourWellModel" "he" "[I") (List.mem_of_getElem? (i := 2) rfl)) (fun _ h9 => h9) rfl dX6_back_53 ?_
      refine lv_iconst (v := (1 : Int32)) hx hb dX6_back_56 k_iconst_1 ?_
      refine va_iald (f := (o23_1 3)) hx hb hEN.1 hP 3 0 rfl rfl (inb_in (i := (1 : Int32)) (n := 40) rfl) dX6_back_57 ?_
      have hres := Option.some.inj h
      subst hres
      exact hRet 58 _ _ _ hP hD hS dX6_back_58
    · have h := (if_pos c15).symm.trans h
      refine lv_bipush (v := (-2 : Int32)) hx hb dX6_back_18 k_bipush_n2 ?_
      have hres := Option.some.inj h
      subst hres
      exact hRet 20 _ _ _ hP hD hS dX6_back_20
  · have h := (if_pos c4).symm.trans h
    refine lv_iconst (v := (-1 : Int32)) hx hb dX6_back_7 k_iconst_n1 ?_
    have hres := Option.some.inj h
    subst hres
    exact hRet 8 _ _ _ hP hD hS dX6_back_8
abbrev rm_X6_count : Room := { frames := 0, cells := 0, slots := 0, locals := 0 }
theorem fi_X6_count_X6 : ∀ w ∈ wsX60, w ∈ wsX6_count := fun _ h => List.mem_cons_of_mem _ (List.mem_append_right _ h)
theorem hdV_X6_count : yX6_count.cls = RX6 ∧ yX6_count.cls ≠ "java/lang/invoke/MethodHandle" ∧ yX6_count.cls ≠ "java/lang/invoke/VarHandle" ∧ (parseMethodDescriptor yX6_count.desc).map (fun d => d.parameters.length) = some 1 := by decide +kernel
set_option maxRecDepth 100000 in
set_option maxHeartbeats 4000000 in
theorem c_X6_count (l : Launch) (G : va_G) (cI cZ : ClassId) (aM : Nat → Nat) (vT : Int64) (vM : Ob) (x1 : Int32) (res : Int32) (h : m_X6_count vM x1 = some res) : Ct l yX6_count wsX6_count rm_X6_count G cI cZ [.ref (aM 0), .int x1] [oX6 aM vM vT, ai cI (aM 1) 70 (vM 1), ai cI (aM 3) 40 (vM 3)] (some (.int res)) [oX6 aM vM vT, ai cI (aM 1) 70 (vM 1), ai cI (aM 3) 40 (vM 3)] := by
  refine Ct.of_i (maxL := 2) (by decide) rfl (Nat.le_of_ble_eq_true rfl) ?_
  intro p e s m below meth c args hx hb hml hown hts A hA hEN hP hD hS Q hRet ls hl
  have hown : s.vm.findClass RX6 = some m.cls := hown
  have hl : lv_has ls 2 [(0, .ref (aM 0)), (1, .int x1)] := hl
  unfold m_X6_count at h
  refine lv_iload_n hx hb dX6_count_0 rfl (lv_at hl 1 rfl) ?_
  by_cases c1_0 : x1 = (0 : Int32)
  · have h := (if_pos c1_0).symm.trans h
    refine lv_tableIn (off := 47) (tgt := 48) hx hb dX6_count_1 (by rw [c1_0]; decide) (by rw [c1_0]; decide) (by rw [c1_0]; decide) (by decide) ?_
    refine lv_aload_n hx hb dX6_count_48 rfl (lv_at hl 0 rfl) ?_
    refine va_get (D := G) (ci := 6) (v := .ref (aM 1)) (C := RX6) (T := TX6) (N := 29) hx hb hts fi_X6_count_X6 hown hEN.1 hP 0 rfl rfl 0 (by decide) (hts (.fieldLink RX6 7 "HourWellModel" "tale" "[I") (List.mem_of_getElem? (i := 1) rfl)) (fun _ h9 => h9) rfl dX6_count_49 ?_
    refine lv_iload_n hx hb dX6_count_52 rfl (lv_at hl 1 rfl) ?_
    obtain ⟨hg53, h⟩ := grd_some h
    refine va_iald (f := (vM 1)) hx hb hEN.1 hP 1 0 rfl rfl (inb_in hg53) dX6_count_53 ?_
    have hres := Option.some.inj h
    subst hres
    exact hRet 54 _ _ _ hP hD hS dX6_count_54
  · have h := (if_neg c1_0).symm.trans h
    by_cases c1_1 : x1 = (1 : Int32)
    · have h := (if_pos c1_1).symm.trans h
      refine lv_tableIn (off := 47) (tgt := 48) hx hb dX6_count_1 (by rw [c1_1]; decide) (by rw [c1_1]; decide) (by rw [c1_1]; decide) (by decide) ?_
      refine lv_aload_n hx hb dX6_count_48 rfl (lv_at hl 0 rfl) ?_
      refine va_get (D := G) (ci := 6) (v := .ref (aM 1)) (C := RX6) (T := TX6) (N := 29) hx hb hts fi_X6_count_X6 hown hEN.1 hP 0 rfl rfl 0 (by decide) (hts (.fieldLink RX6 7 "HourWellModel" "tale" "[I") (List.mem_of_getElem? (i := 1) rfl)) (fun _ h9 => h9) rfl dX6_count_49 ?_
      refine lv_iload_n hx hb dX6_count_52 rfl (lv_at hl 1 rfl) ?_
      obtain ⟨hg53, h⟩ := grd_some h
      refine va_iald (f := (vM 1)) hx hb hEN.1 hP 1 0 rfl rfl (inb_in hg53) dX6_count_53 ?_
      have hres := Option.some.inj h
      subst hres
      exact hRet 54 _ _ _ hP hD hS dX6_count_54
    · have h := (if_neg c1_1).symm.trans h
      by_cases c1_2 : x1 = (2 : Int32)
      · have h := (if_pos c1_2).symm.trans h
        refine lv_tableIn (off := 47) (tgt := 48) hx hb dX6_count_1 (by rw [c1_2]; decide) (by rw [c1_2]; decide) (by rw [c1_2]; decide) (by decide) ?_
        refine lv_aload_n hx hb dX6_count_48 rfl (lv_at hl 0 rfl) ?_
        refine va_get (D := G) (ci := 6) (v := .ref (aM 1)) (C := RX6) (T := TX6) (N := 29) hx hb hts fi_X6_count_X6 hown hEN.1 hP 0 rfl rfl 0 (by decide) (hts (.fieldLink RX6 7 "HourWellModel" "tale" "[I") (List.mem_of_getElem? (i := 1) rfl)) (fun _ h9 => h9) rfl dX6_count_49 ?_
        refine lv_iload_n hx hb dX6_count_52 rfl (lv_at hl 1 rfl) ?_
        obtain ⟨hg53, h⟩ := grd_some h
        refine va_iald (f := (vM 1)) hx hb hEN.1 hP 1 0 rfl rfl (inb_in hg53) dX6_count_53 ?_
        have hres := Option.some.inj h
        subst hres
        exact hRet 54 _ _ _ hP hD hS dX6_count_54
      · have h := (if_neg c1_2).symm.trans h
        by_cases c1_3 : x1 = (3 : Int32)
        · have h := (if_pos c1_3).symm.trans h
          refine lv_tableIn (off := 47) (tgt := 48) hx hb dX6_count_1 (by rw [c1_3]; decide) (by rw [c1_3]; decide) (by rw [c1_3]; decide) (by decide) ?_
          refine lv_aload_n hx hb dX6_count_48 rfl (lv_at hl 0 rfl) ?_
          refine va_get (D := G) (ci := 6) (v := .ref (aM 1)) (C := RX6) (T := TX6) (N := 29) hx hb hts fi_X6_count_X6 hown hEN.1 hP 0 rfl rfl 0 (by decide) (hts (.fieldLink RX6 7 "HourWellModel" "tale" "[I") (List.mem_of_getElem? (i := 1) rfl)) (fun _ h9 => h9) rfl dX6_count_49 ?_
          refine lv_iload_n hx hb dX6_count_52 rfl (lv_at hl 1 rfl) ?_
          obtain ⟨hg53, h⟩ := grd_some h
          refine va_iald (f := (vM 1)) hx hb hEN.1 hP 1 0 rfl rfl (inb_in hg53) dX6_count_53 ?_
          have hres := Option.some.inj h
          subst hres
          exact hRet 54 _ _ _ hP hD hS dX6_count_54
        · have h := (if_neg c1_3).symm.trans h
          by_cases c1_4 : x1 = (4 : Int32)
          · have h := (if_pos c1_4).symm.trans h
            refine lv_tableIn (off := 54) (tgt := 55) hx hb dX6_count_1 (by rw [c1_4]; decide) (by rw [c1_4]; decide) (by rw [c1_4]; decide) (by decide) ?_
            refine lv_aload_n hx hb dX6_count_55 rfl (lv_at hl 0 rfl) ?_
            refine va_get (D := G) (ci := 6) (v := .int (vM 0 8)) (C := RX6) (T := TX6) (N := 29) hx hb hts fi_X6_count_X6 hown hEN.1 hP 0 rfl rfl 8 (by decide) (hts (.fieldLink RX6 145 "HourWellModel" "swapMany" "I") (List.mem_of_getElem? (i := 2) rfl)) (fun _ h9 => h9) rfl dX6_count_56 ?_
            have hres := Option.some.inj h
            subst hres
            exact hRet 59 _ _ _ hP hD hS dX6_count_59
          · have h := (if_neg c1_4).symm.trans h
            by_cases c1_5 : x1 = (5 : Int32)
            · have h := (if_pos c1_5).symm.trans h
              refine lv_tableIn (off := 59) (tgt := 60) hx hb dX6_count_1 (by rw [c1_5]; decide) (by rw [c1_5]; decide) (by rw [c1_5]; decide) (by decide) ?_
              refine lv_aload_n hx hb dX6_count_60 rfl (lv_at hl 0 rfl) ?_
              refine va_get (D := G) (ci := 6) (v := .int (vM 0 10)) (C := RX6) (T := TX6) (N := 29) hx hb hts fi_X6_count_X6 hown hEN.1 hP 0 rfl rfl 10 (by decide) (hts (.fieldLink RX6 148 "HourWellModel" "tasteMany" "I") (List.mem_of_getElem? (i := 3) rfl)) (fun _ h9 => h9) rfl dX6_count_61 ?_
              have hres := Option.some.inj h
              subst hres
              exact hRet 64 _ _ _ hP hD hS dX6_count_64
            · have h := (if_neg c1_5).symm.trans h
              by_cases c1_6 : x1 = (6 : Int32)
              · have h := (if_pos c1_6).symm.trans h
                refine lv_tableIn (off := 64) (tgt := 65) hx hb dX6_count_1 (by rw [c1_6]; decide) (by rw [c1_6]; decide) (by rw [c1_6]; decide) (by decide) ?_
                refine lv_aload_n hx hb dX6_count_65 rfl (lv_at hl 0 rfl) ?_
                refine va_get (D := G) (ci := 6) (v := .ref (aM 3)) (C := RX6) (T := TX6) (N := 29) hx hb hts fi_X6_count_X6 hown hEN.1 hP 0 rfl rfl 2 (by decide) (hts (.fieldLink RX6 16 "HourWellModel" "he" "[I") (List.mem_of_getElem? (i := 4) rfl)) (fun _ h9 => h9) rfl dX6_count_66 ?_
                refine lv_iconst (v := (3 : Int32)) hx hb dX6_count_69 k_iconst_3 ?_
                refine va_iald (f := (vM 3)) hx hb hEN.1 hP 2 0 rfl rfl (inb_in (i := (3 : Int32)) (n := 40) rfl) dX6_count_70 ?_
                have hres := Option.some.inj h
                subst hres
                exact hRet 71 _ _ _ hP hD hS dX6_count_71
              · have h := (if_neg c1_6).symm.trans h
                by_cases c1_7 : x1 = (7 : Int32)
                · have h := (if_pos c1_7).symm.trans h
                  refine lv_tableIn (off := 71) (tgt := 72) hx hb dX6_count_1 (by rw [c1_7]; decide) (by rw [c1_7]; decide) (by rw [c1_7]; decide) (by decide) ?_
                  refine lv_aload_n hx hb dX6_count_72 rfl (lv_at hl 0 rfl) ?_
                  refine va_get (D := G) (ci := 6) (v := .int (vM 0 6)) (C := RX6) (T := TX6) (N := 29) hx hb hts fi_X6_count_X6 hown hEN.1 hP 0 rfl rfl 6 (by decide) (hts (.fieldLink RX6 66 "HourWellModel" "size" "I") (List.mem_of_getElem? (i := 5) rfl)) (fun _ h9 => h9) rfl dX6_count_73 ?_
                  have hres := Option.some.inj h
                  subst hres
                  exact hRet 76 _ _ _ hP hD hS dX6_count_76
                · have h := (if_neg c1_7).symm.trans h
                  refine lv_tableOut (tgt := 77) hx hb dX6_count_1 (by have e0 := lv_neT c1_0 (a := 0) (by decide); have e1 := lv_neT c1_1 (a := 1) (by decide); have e2 := lv_neT c1_2 (a := 2) (by decide); have e3 := lv_neT c1_3 (a := 3) (by decide); have e4 := lv_neT c1_4 (a := 4) (by decide); have e5 := lv_neT c1_5 (a := 5) (by decide); have e6 := lv_neT c1_6 (a := 6) (by decide); have e7 := lv_neT c1_7 (a := 7) (by decide);  omega) (by decide) ?_
                  refine lv_iconst (v := (-1 : Int32)) hx hb dX6_count_77 k_iconst_n1 ?_
                  have hres := Option.some.inj h
                  subst hres
                  exact hRet 78 _ _ _ hP hD hS dX6_count_78
abbrev rm_X6_trace : Room := { frames := 0, cells := 0, slots := 0, locals := 0 }
theorem fi_X6_trace_X6 : ∀ w ∈ wsX60, w ∈ wsX6_trace := fun _ h => List.mem_cons_of_mem _ (List.mem_append_right _ h)
theorem hdV_X6_trace : yX6_trace.cls = RX6 ∧ yX6_trace.cls ≠ "java/lang/invoke/MethodHandle" ∧ yX6_trace.cls ≠ "java/lang/invoke/VarHandle" ∧ (parseMethodDescriptor yX6_trace.desc).map (fun d => d.parameters.length) = some 0 := by decide +kernel
set_option maxRecDepth 100000 in
set_option maxHeartbeats 4000000 in
theorem c_X6_trace (l : Launch) (G : va_G) (cI cZ : ClassId) (aM : Nat → Nat) (vM : Ob) (vT : Int64)  (res : Int64) (h : m_X6_trace vM vT  = some res) : Ct l yX6_trace wsX6_trace rm_X6_trace G cI cZ [.ref (aM 0)] [oX6 aM vM vT] (some (.long res)) [oX6 aM vM vT] := by
  refine Ct.of_l (maxL := 1) (by decide) rfl (Nat.le_of_ble_eq_true rfl) ?_
  intro p e s m below meth c args hx hb hml hown hts A hA hEN hP hD hS Q hRet ls hl
  have hown : s.vm.findClass RX6 = some m.cls := hown
  have hl : lv_has ls 1 [(0, .ref (aM 0))] := hl
  unfold m_X6_trace at h
  refine lv_aload_n hx hb dX6_trace_0 rfl (lv_at hl 0 rfl) ?_
  refine va_get (D := G) (ci := 6) (v := .long vT) (C := RX6) (T := TX6) (N := 29) hx hb hts fi_X6_trace_X6 hown hEN.1 hP 0 rfl rfl 11 (by decide) (hts (.fieldLink RX6 282 "HourWellModel" "trace" "J") (List.mem_of_getElem? (i := 1) rfl)) (fun _ h9 => h9) rfl dX6_trace_1 ?_
  have hres := Option.some.inj h
  subst hres
  exact hRet 4 _ _ _ hP hD hS dX6_trace_4
