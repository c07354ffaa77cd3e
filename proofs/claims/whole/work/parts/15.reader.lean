abbrev rm_X1_isLetter : Room := { frames := 0, cells := 0, slots := 0, locals := 0 }
theorem hdS_X1_isLetter : yX1_isLetter.cls ≠ "java/lang/invoke/MethodHandle" ∧ yX1_isLetter.cls ≠ "java/lang/invoke/VarHandle" ∧ (parseMethodDescriptor yX1_isLetter.desc).map (fun d => d.parameters.length) = some 1 := by decide +kernel
set_option maxRecDepth 100000 in
set_option maxHeartbeats 4000000 in
theorem c_X1_isLetter (l : Launch) (G : va_G) (cI cZ : ClassId)   (x0 : Int32) (res : Int32) (h : m_X1_isLetter  x0 = some res) : Ct l yX1_isLetter wsX1_isLetter rm_X1_isLetter G cI cZ [.int x0] [] (some (.int res)) [] := by
  refine Ct.of_z (maxL := 1) (by decide) rfl (Nat.le_of_ble_eq_true rfl) ?_
  intro p e s m below meth c args hx hb hml hown hts A hA hEN hP hD hS Q hRet ls hl
  have hown : s.vm.findClass RX1 = some m.cls := hown
  have hl : lv_has ls 1 [(0, .int x0)] := hl
  unfold m_X1_isLetter at h
  refine lv_iload_n hx hb dX1_isLetter_0 rfl (lv_at hl 0 rfl) ?_
  refine lv_bipush (v := (97 : Int32)) hx hb dX1_isLetter_1 k_bipush_97 ?_
  refine lv_icmp_lt (tgt := 16) hx hb dX1_isLetter_3 (by decide) (fun c3 => ?_) (fun c3 => ?_)
  · have h := (if_pos c3).symm.trans h
    refine lv_iconst (v := (0 : Int32)) hx hb dX1_isLetter_16 k_iconst_0 ?_
    have hres := Option.some.inj h
    subst hres
    exact hRet 17 nz0 _ _ _ hP hD hS dX1_isLetter_17
  · have h := (if_neg c3).symm.trans h
    refine lv_iload_n hx hb dX1_isLetter_6 rfl (lv_at hl 0 rfl) ?_
    refine lv_bipush (v := (122 : Int32)) hx hb dX1_isLetter_7 k_bipush_122 ?_
    refine lv_icmp_gt (tgt := 16) hx hb dX1_isLetter_9 (by decide) (fun c9 => ?_) (fun c9 => ?_)
    · have h := (if_pos c9).symm.trans h
      refine lv_iconst (v := (0 : Int32)) hx hb dX1_isLetter_16 k_iconst_0 ?_
      have hres := Option.some.inj h
      subst hres
      exact hRet 17 nz0 _ _ _ hP hD hS dX1_isLetter_17
    · have h := (if_neg c9).symm.trans h
      refine lv_iconst (v := (1 : Int32)) hx hb dX1_isLetter_12 k_iconst_1 ?_
      refine lv_goto (tgt := 17) hx hb dX1_isLetter_13 (by decide) ?_
      have hres := Option.some.inj h
      subst hres
      exact hRet 17 nz1 _ _ _ hP hD hS dX1_isLetter_17
abbrev rm_X1_isDigit : Room := { frames := 0, cells := 0, slots := 0, locals := 0 }
theorem hdS_X1_isDigit : yX1_isDigit.cls ≠ "java/lang/invoke/MethodHandle" ∧ yX1_isDigit.cls ≠ "java/lang/invoke/VarHandle" ∧ (parseMethodDescriptor yX1_isDigit.desc).map (fun d => d.parameters.length) = some 1 := by decide +kernel
set_option maxRecDepth 100000 in
set_option maxHeartbeats 4000000 in
theorem c_X1_isDigit (l : Launch) (G : va_G) (cI cZ : ClassId)   (x0 : Int32) (res : Int32) (h : m_X1_isDigit  x0 = some res) : Ct l yX1_isDigit wsX1_isDigit rm_X1_isDigit G cI cZ [.int x0] [] (some (.int res)) [] := by
  refine Ct.of_z (maxL := 1) (by decide) rfl (Nat.le_of_ble_eq_true rfl) ?_
  intro p e s m below meth c args hx hb hml hown hts A hA hEN hP hD hS Q hRet ls hl
  have hown : s.vm.findClass RX1 = some m.cls := hown
  have hl : lv_has ls 1 [(0, .int x0)] := hl
  unfold m_X1_isDigit at h
  refine lv_iload_n hx hb dX1_isDigit_0 rfl (lv_at hl 0 rfl) ?_
  refine lv_bipush (v := (48 : Int32)) hx hb dX1_isDigit_1 k_bipush_48 ?_
  refine lv_icmp_lt (tgt := 16) hx hb dX1_isDigit_3 (by decide) (fun c3 => ?_) (fun c3 => ?_)
  · have h := (if_pos c3).symm.trans h
    refine lv_iconst (v := (0 : Int32)) hx hb dX1_isDigit_16 k_iconst_0 ?_
    have hres := Option.some.inj h
    subst hres
    exact hRet 17 nz0 _ _ _ hP hD hS dX1_isDigit_17
  · have h := (if_neg c3).symm.trans h
    refine lv_iload_n hx hb dX1_isDigit_6 rfl (lv_at hl 0 rfl) ?_
    refine lv_bipush (v := (57 : Int32)) hx hb dX1_isDigit_7 k_bipush_57 ?_
    refine lv_icmp_gt (tgt := 16) hx hb dX1_isDigit_9 (by decide) (fun c9 => ?_) (fun c9 => ?_)
    · have h := (if_pos c9).symm.trans h
      refine lv_iconst (v := (0 : Int32)) hx hb dX1_isDigit_16 k_iconst_0 ?_
      have hres := Option.some.inj h
      subst hres
      exact hRet 17 nz0 _ _ _ hP hD hS dX1_isDigit_17
    · have h := (if_neg c9).symm.trans h
      refine lv_iconst (v := (1 : Int32)) hx hb dX1_isDigit_12 k_iconst_1 ?_
      refine lv_goto (tgt := 17) hx hb dX1_isDigit_13 (by decide) ?_
      have hres := Option.some.inj h
      subst hres
      exact hRet 17 nz1 _ _ _ hP hD hS dX1_isDigit_17
abbrev rm_X1_readToken : Room := { frames := 1, cells := 0, slots := 0, locals := 20 }
theorem fi_X1_readToken_X1 : ∀ w ∈ wsX10, w ∈ wsX1_readToken := fun _ h => List.mem_cons_of_mem _ (List.mem_append_right _ h)
theorem hdV_X1_readToken : yX1_readToken.cls = RX1 ∧ yX1_readToken.cls ≠ "java/lang/invoke/MethodHandle" ∧ yX1_readToken.cls ≠ "java/lang/invoke/VarHandle" ∧ (parseMethodDescriptor yX1_readToken.desc).map (fun d => d.parameters.length) = some 0 := by decide +kernel
set_option maxRecDepth 100000 in
set_option maxHeartbeats 4000000 in
theorem c_X1_readToken (l : Launch) (G : va_G) (cI cZ : ClassId) (aR : Nat → Nat) (aD : Nat → Nat) (aT : Nat) (vR : Ob) (vt : (Nat → Int32))  (res : Ob) (h : m_X1_readToken vR vt  = some res) : Ct l yX1_readToken wsX1_readToken rm_X1_readToken G cI cZ [.ref (aR 0)] [oX1 aR aT aD vR, ai cI aT 200 vt] none [oX1 aR aT aD res, ai cI aT 200 vt] := by
  refine Ct.of_v (maxL := 3) (by decide) rfl (Nat.le_of_ble_eq_true rfl) ?_
  intro p e s m below meth c args hx hb hml hown hts A hA hEN hP hD hS Q hRet ls hl
  have hown : s.vm.findClass RX1 = some m.cls := hown
  have hl : lv_has ls 3 [(0, .ref (aR 0))] := hl
  have L0 : ∀ (out : Ob), (∀ ex : Ob, out = ex → ∀ (H : Heap) (locs : List Loc) (ls : Array Slot), va_P G vwCl [oX1 aR aT aD ex, ai cI aT 200 vt] H → va_D A [oX1 aR aT aD ex, ai cI aT 200 vt] → va_S A s.heap H locs → lv_has ls 3 [(0, .ref (aR 0))] → W p l e rm_X1_readToken s m args below meth c H locs 0 0 Q (F0 m 38 ls [])) → ∀ (n : Nat) (vR : Ob), m_X1_readToken_L0 vt n vR = some out → ∀ (H : Heap) (locs : List Loc) (ls : Array Slot), va_P G vwCl [oX1 aR aT aD vR, ai cI aT 200 vt] H → va_D A [oX1 aR aT aD vR, ai cI aT 200 vt] → va_S A s.heap H locs → lv_has ls 3 [(0, .ref (aR 0))] → W p l e rm_X1_readToken s m args below meth c H locs 0 0 Q (F0 m 0 ls []) := by
    intro out hKx
    intro n
    induction n with
    | zero => intro vR h; exact nomatch (show (none : Option (Ob)) = some out from h)
    | succ n hrc =>
      intro vR h H locs ls hP hD hS hl
      have h : m_X1_readToken_L0B vt (m_X1_readToken_L0 vt n) vR = some out := h
      generalize m_X1_readToken_L0 vt n = rc at h hrc
      unfold m_X1_readToken_L0B at h
      refine lv_aload_n hx hb dX1_readToken_0 rfl (lv_at hl 0 rfl) ?_
      refine va_get (D := G) (ci := 1) (v := .int (vR 0 3)) (C := RX1) (T := TX1) (N := 8) hx hb hts fi_X1_readToken_X1 hown hEN.1 hP 0 rfl rfl 3 (by decide) (hts (.fieldLink RX1 34 "HourWell$Reader" "next" "I") (List.mem_of_getElem? (i := 1) rfl)) (fun _ h9 => h9) rfl dX1_readToken_1 ?_
      refine lv_aload_n hx hb dX1_readToken_4 rfl (lv_at hl 0 rfl) ?_
      refine va_get (D := G) (ci := 1) (v := .int (vR 0 2)) (C := RX1) (T := TX1) (N := 8) hx hb hts fi_X1_readToken_X1 hown hEN.1 hP 0 rfl rfl 2 (by decide) (hts (.fieldLink RX1 30 "HourWell$Reader" "length" "I") (List.mem_of_getElem? (i := 2) rfl)) (fun _ h9 => h9) rfl dX1_readToken_5 ?_
      refine lv_icmp_ge (tgt := 38) hx hb dX1_readToken_8 (by decide) (fun c8 => ?_) (fun c8 => ?_)
      · have h := (if_pos c8).symm.trans h
        exact hKx _ (Option.some.inj h).symm _ _ _ hP hD hS (lv_sub hl [0] rfl)
      · have h := (if_neg c8).symm.trans h
        refine lv_aload_n hx hb dX1_readToken_11 rfl (lv_at hl 0 rfl) ?_
        refine va_get (D := G) (ci := 1) (v := .ref aT) (C := RX1) (T := TX1) (N := 8) hx hb hts fi_X1_readToken_X1 hown hEN.1 hP 0 rfl rfl 0 (by decide) (hts (.fieldLink RX1 9 "HourWell$Reader" "text" "[I") (List.mem_of_getElem? (i := 3) rfl)) (fun _ h9 => h9) rfl dX1_readToken_12 ?_
        refine lv_aload_n hx hb dX1_readToken_15 rfl (lv_at hl 0 rfl) ?_
        refine va_get (D := G) (ci := 1) (v := .int (vR 0 3)) (C := RX1) (T := TX1) (N := 8) hx hb hts fi_X1_readToken_X1 hown hEN.1 hP 0 rfl rfl 3 (by decide) (hts (.fieldLink RX1 34 "HourWell$Reader" "next" "I") (List.mem_of_getElem? (i := 1) rfl)) (fun _ h9 => h9) rfl dX1_readToken_16 ?_
        obtain ⟨hg19, h⟩ := grd_some h
        refine va_iald (f := vt) hx hb hEN.1 hP 1 0 rfl rfl (inb_in hg19) dX1_readToken_19 ?_
        refine lv_bipush (v := (32 : Int32)) hx hb dX1_readToken_20 k_bipush_32 ?_
        refine lv_icmp_ne (tgt := 38) hx hb dX1_readToken_22 (by decide) (fun c22 => ?_) (fun c22 => ?_)
        · have h := (if_neg c22).symm.trans h
          exact hKx _ (Option.some.inj h).symm _ _ _ hP hD hS (lv_sub hl [0] rfl)
        · have h := (if_pos c22).symm.trans h
          refine lv_aload_n hx hb dX1_readToken_25 rfl (lv_at hl 0 rfl) ?_
          refine lv_dup hx hb dX1_readToken_26 rfl ?_
          refine va_get (D := G) (ci := 1) (v := .int (vR 0 3)) (C := RX1) (T := TX1) (N := 8) hx hb hts fi_X1_readToken_X1 hown hEN.1 hP 0 rfl rfl 3 (by decide) (hts (.fieldLink RX1 34 "HourWell$Reader" "next" "I") (List.mem_of_getElem? (i := 1) rfl)) (fun _ h9 => h9) rfl dX1_readToken_27 ?_
          refine lv_iconst (v := (1 : Int32)) hx hb dX1_readToken_30 k_iconst_1 ?_
          refine lv_iadd hx hb dX1_readToken_31 ?_
          refine va_put (D := G) (ci := 1) (v := .int ((vR 0 3) + (1 : Int32))) (ty := .int) (C := RX1) (T := TX1) (N := 8) hx hb hts fi_X1_readToken_X1 tyX1 tyX1_ok nmX1 hown hEN.1 hP hD hS 0 rfl rfl 3 (by decide) (hts (.fieldLink RX1 34 "HourWell$Reader" "next" "I") (List.mem_of_getElem? (i := 1) rfl)) (fun _ h9 => h9) rfl (by decide +kernel) rfl rfl (Nat.le_of_ble_eq_true rfl) dX1_readToken_32 (fun H locs hP hD hS => ?_)
          have hP : va_P G vwCl [oX1 aR aT aD (st vR 0 3 ((vR 0 3) + (1 : Int32))), ai cI aT 200 vt] H := hP
          have hD : va_D A [oX1 aR aT aD (st vR 0 3 ((vR 0 3) + (1 : Int32))), ai cI aT 200 vt] := hD
          refine lv_goto (tgt := 0) hx hb dX1_readToken_35 (by decide) ?_
          exact hrc (st vR 0 3 ((vR 0 3) + (1 : Int32))) h _ _ _ hP hD hS (lv_sub hl [0] rfl)
  have L174 : ∀ (out : Ob × Int32), (∀ ex : Ob × Int32, out = ex → ∀ (H : Heap) (locs : List Loc) (ls : Array Slot), va_P G vwCl [oX1 aR aT aD ex.1, ai cI aT 200 vt] H → va_D A [oX1 aR aT aD ex.1, ai cI aT 200 vt] → va_S A s.heap H locs → lv_has ls 3 [(0, .ref (aR 0)), (1, .int ex.2)] → W p l e rm_X1_readToken s m args below meth c H locs 0 0 Q (F0 m 237 ls [])) → ∀ (n : Nat) (vR : Ob) (x1 : Int32), m_X1_readToken_L174 vt n vR x1 = some out → ∀ (H : Heap) (locs : List Loc) (ls : Array Slot), va_P G vwCl [oX1 aR aT aD vR, ai cI aT 200 vt] H → va_D A [oX1 aR aT aD vR, ai cI aT 200 vt] → va_S A s.heap H locs → lv_has ls 3 [(0, .ref (aR 0)), (1, .int x1)] → W p l e rm_X1_readToken s m args below meth c H locs 0 0 Q (F0 m 174 ls []) := by
    intro out hKx
    intro n
    induction n with
    | zero => intro vR x1 h; exact nomatch (show (none : Option (Ob × Int32)) = some out from h)
    | succ n hrc =>
      intro vR x1 h H locs ls hP hD hS hl
      have h : m_X1_readToken_L174B vt (m_X1_readToken_L174 vt n) vR x1 = some out := h
      generalize m_X1_readToken_L174 vt n = rc at h hrc
      unfold m_X1_readToken_L174B at h
      refine lv_aload_n hx hb dX1_readToken_174 rfl (lv_at hl 0 rfl) ?_
      refine va_get (D := G) (ci := 1) (v := .int (vR 0 3)) (C := RX1) (T := TX1) (N := 8) hx hb hts fi_X1_readToken_X1 hown hEN.1 hP 0 rfl rfl 3 (by decide) (hts (.fieldLink RX1 34 "HourWell$Reader" "next" "I") (List.mem_of_getElem? (i := 1) rfl)) (fun _ h9 => h9) rfl dX1_readToken_175 ?_
      refine lv_aload_n hx hb dX1_readToken_178 rfl (lv_at hl 0 rfl) ?_
      refine va_get (D := G) (ci := 1) (v := .int (vR 0 2)) (C := RX1) (T := TX1) (N := 8) hx hb hts fi_X1_readToken_X1 hown hEN.1 hP 0 rfl rfl 2 (by decide) (hts (.fieldLink RX1 30 "HourWell$Reader" "length" "I") (List.mem_of_getElem? (i := 2) rfl)) (fun _ h9 => h9) rfl dX1_readToken_179 ?_
      refine lv_icmp_ge (tgt := 237) hx hb dX1_readToken_182 (by decide) (fun c182 => ?_) (fun c182 => ?_)
      · have h := (if_pos c182).symm.trans h
        exact hKx _ (Option.some.inj h).symm _ _ _ hP hD hS (lv_sub hl [0, 1] rfl)
      · have h := (if_neg c182).symm.trans h
        refine lv_aload_n hx hb dX1_readToken_185 rfl (lv_at hl 0 rfl) ?_
        refine va_get (D := G) (ci := 1) (v := .ref aT) (C := RX1) (T := TX1) (N := 8) hx hb hts fi_X1_readToken_X1 hown hEN.1 hP 0 rfl rfl 0 (by decide) (hts (.fieldLink RX1 9 "HourWell$Reader" "text" "[I") (List.mem_of_getElem? (i := 3) rfl)) (fun _ h9 => h9) rfl dX1_readToken_186 ?_
        refine lv_aload_n hx hb dX1_readToken_189 rfl (lv_at hl 0 rfl) ?_
        refine va_get (D := G) (ci := 1) (v := .int (vR 0 3)) (C := RX1) (T := TX1) (N := 8) hx hb hts fi_X1_readToken_X1 hown hEN.1 hP 0 rfl rfl 3 (by decide) (hts (.fieldLink RX1 34 "HourWell$Reader" "next" "I") (List.mem_of_getElem? (i := 1) rfl)) (fun _ h9 => h9) rfl dX1_readToken_190 ?_
        obtain ⟨hg193, h⟩ := grd_some h
        refine va_iald (f := vt) hx hb hEN.1 hP 1 0 rfl rfl (inb_in hg193) dX1_readToken_193 ?_
        obtain ⟨o194, ho194, h⟩ := bnd_some h
        refine call_S0 (As := [.int (vt (Int32.toNatClampNeg (vR 0 3)))]) (rest := []) ⟨hx, hb, hml, hown, hts⟩ (c_X1_isDigit l G cI cZ  (vt (Int32.toNatClampNeg (vR 0 3))) o194 ho194) (va_cwS 1 hts gX1_readToken_X1_isDigit rfl rfl rfl hdS_X1_isDigit ⟨Nat.le_of_ble_eq_true rfl, Nat.le_of_ble_eq_true rfl⟩) hEN hA hP hD hS [] rfl (by decide) rfl hl.1 rfl (Nat.le_of_ble_eq_true rfl) dX1_readToken_194 ⟨Nat.le_of_ble_eq_true rfl, Nat.le_of_ble_eq_true rfl⟩ (fun H locs hP hS => ?_)
        refine lv_if_eq (tgt := 237) hx hb dX1_readToken_197 (by decide) (fun c197 => ?_) (fun c197 => ?_)
        · have h := (if_pos c197).symm.trans h
          exact hKx _ (Option.some.inj h).symm _ _ _ hP hD hS (lv_sub hl [0, 1] rfl)
        · have h := (if_neg c197).symm.trans h
          refine lv_aload_n hx hb dX1_readToken_200 rfl (lv_at hl 0 rfl) ?_
          refine lv_aload_n hx hb dX1_readToken_201 rfl (lv_at hl 0 rfl) ?_
          refine va_get (D := G) (ci := 1) (v := .int (vR 0 6)) (C := RX1) (T := TX1) (N := 8) hx hb hts fi_X1_readToken_X1 hown hEN.1 hP 0 rfl rfl 6 (by decide) (hts (.fieldLink RX1 57 "HourWell$Reader" "value" "I") (List.mem_of_getElem? (i := 6) rfl)) (fun _ h9 => h9) rfl dX1_readToken_202 ?_
          refine lv_bipush (v := (10 : Int32)) hx hb dX1_readToken_205 k_bipush_10 ?_
          refine lv_imul hx hb dX1_readToken_207 ?_
          refine lv_aload_n hx hb dX1_readToken_208 rfl (lv_at hl 0 rfl) ?_
          refine va_get (D := G) (ci := 1) (v := .ref aT) (C := RX1) (T := TX1) (N := 8) hx hb hts fi_X1_readToken_X1 hown hEN.1 hP 0 rfl rfl 0 (by decide) (hts (.fieldLink RX1 9 "HourWell$Reader" "text" "[I") (List.mem_of_getElem? (i := 3) rfl)) (fun _ h9 => h9) rfl dX1_readToken_209 ?_
          refine lv_aload_n hx hb dX1_readToken_212 rfl (lv_at hl 0 rfl) ?_
          refine va_get (D := G) (ci := 1) (v := .int (vR 0 3)) (C := RX1) (T := TX1) (N := 8) hx hb hts fi_X1_readToken_X1 hown hEN.1 hP 0 rfl rfl 3 (by decide) (hts (.fieldLink RX1 34 "HourWell$Reader" "next" "I") (List.mem_of_getElem? (i := 1) rfl)) (fun _ h9 => h9) rfl dX1_readToken_213 ?_
          obtain ⟨hg216, h⟩ := grd_some h
          refine va_iald (f := vt) hx hb hEN.1 hP 1 0 rfl rfl (inb_in hg216) dX1_readToken_216 ?_
          refine lv_iadd hx hb dX1_readToken_217 ?_
          refine lv_bipush (v := (48 : Int32)) hx hb dX1_readToken_218 k_bipush_48 ?_
          refine lv_isub hx hb dX1_readToken_220 ?_
          refine va_put (D := G) (ci := 1) (v := .int ((((vR 0 6) * (10 : Int32)) + (vt (Int32.toNatClampNeg (vR 0 3)))) - (48 : Int32))) (ty := .int) (C := RX1) (T := TX1) (N := 8) hx hb hts fi_X1_readToken_X1 tyX1 tyX1_ok nmX1 hown hEN.1 hP hD hS 0 rfl rfl 6 (by decide) (hts (.fieldLink RX1 57 "HourWell$Reader" "value" "I") (List.mem_of_getElem? (i := 6) rfl)) (fun _ h9 => h9) rfl (by decide +kernel) rfl rfl (Nat.le_of_ble_eq_true rfl) dX1_readToken_221 (fun H locs hP hD hS => ?_)
          have hP : va_P G vwCl [oX1 aR aT aD (st vR 0 6 ((((vR 0 6) * (10 : Int32)) + (vt (Int32.toNatClampNeg (vR 0 3)))) - (48 : Int32))), ai cI aT 200 vt] H := hP
          have hD : va_D A [oX1 aR aT aD (st vR 0 6 ((((vR 0 6) * (10 : Int32)) + (vt (Int32.toNatClampNeg (vR 0 3)))) - (48 : Int32))), ai cI aT 200 vt] := hD
          refine lv_aload_n hx hb dX1_readToken_224 rfl (lv_at hl 0 rfl) ?_
          refine lv_dup hx hb dX1_readToken_225 rfl ?_
          refine va_get (D := G) (ci := 1) (v := .int (vR 0 3)) (C := RX1) (T := TX1) (N := 8) hx hb hts fi_X1_readToken_X1 hown hEN.1 hP 0 rfl rfl 3 (by decide) (hts (.fieldLink RX1 34 "HourWell$Reader" "next" "I") (List.mem_of_getElem? (i := 1) rfl)) (fun _ h9 => h9) rfl dX1_readToken_226 ?_
          refine lv_iconst (v := (1 : Int32)) hx hb dX1_readToken_229 k_iconst_1 ?_
          refine lv_iadd hx hb dX1_readToken_230 ?_
          refine va_put (D := G) (ci := 1) (v := .int ((vR 0 3) + (1 : Int32))) (ty := .int) (C := RX1) (T := TX1) (N := 8) hx hb hts fi_X1_readToken_X1 tyX1 tyX1_ok nmX1 hown hEN.1 hP hD hS 0 rfl rfl 3 (by decide) (hts (.fieldLink RX1 34 "HourWell$Reader" "next" "I") (List.mem_of_getElem? (i := 1) rfl)) (fun _ h9 => h9) rfl (by decide +kernel) rfl rfl (Nat.le_of_ble_eq_true rfl) dX1_readToken_231 (fun H locs hP hD hS => ?_)
          have hP : va_P G vwCl [oX1 aR aT aD (st (st vR 0 6 ((((vR 0 6) * (10 : Int32)) + (vt (Int32.toNatClampNeg (vR 0 3)))) - (48 : Int32))) 0 3 ((vR 0 3) + (1 : Int32))), ai cI aT 200 vt] H := hP
          have hD : va_D A [oX1 aR aT aD (st (st vR 0 6 ((((vR 0 6) * (10 : Int32)) + (vt (Int32.toNatClampNeg (vR 0 3)))) - (48 : Int32))) 0 3 ((vR 0 3) + (1 : Int32))), ai cI aT 200 vt] := hD
          refine lv_goto (tgt := 174) hx hb dX1_readToken_234 (by decide) ?_
          exact hrc (st (st vR 0 6 ((((vR 0 6) * (10 : Int32)) + (vt (Int32.toNatClampNeg (vR 0 3)))) - (48 : Int32))) 0 3 ((vR 0 3) + (1 : Int32))) x1 h _ _ _ hP hD hS (lv_sub hl [0, 1] rfl)
  have j269 : ∀ (vR : Ob) (s1 : Int32), m_X1_readToken_j269 vt vR s1 = some res → ∀ (H : Heap) (locs : List Loc) (ls : Array Slot), va_P G vwCl [oX1 aR aT aD vR, ai cI aT 200 vt] H → va_D A [oX1 aR aT aD vR, ai cI aT 200 vt] → va_S A s.heap H locs → lv_has ls 3 [] → W p l e rm_X1_readToken s m args below meth c H locs 0 0 Q (F0 m 269 ls [.int s1, .ref (aR 0)]) := by
    intro vR s1 h H locs ls hP hD hS hl
    unfold m_X1_readToken_j269 at h
    refine va_put (D := G) (ci := 1) (v := .int s1) (ty := .int) (C := RX1) (T := TX1) (N := 8) hx hb hts fi_X1_readToken_X1 tyX1 tyX1_ok nmX1 hown hEN.1 hP hD hS 0 rfl rfl 5 (by decide) (hts (.fieldLink RX1 44 "HourWell$Reader" "kind" "I") (List.mem_of_getElem? (i := 5) rfl)) (fun _ h9 => h9) rfl (by decide +kernel) rfl rfl (Nat.le_of_ble_eq_true rfl) dX1_readToken_269 (fun H locs hP hD hS => ?_)
    have hP : va_P G vwCl [oX1 aR aT aD (st vR 0 5 s1), ai cI aT 200 vt] H := hP
    have hD : va_D A [oX1 aR aT aD (st vR 0 5 s1), ai cI aT 200 vt] := hD
    refine lv_goto (tgt := 290) hx hb dX1_readToken_272 (by decide) ?_
    have hres := Option.some.inj h
    subst hres
    exact hRet 290 _ _ _ hP hD hS dX1_readToken_290
  have j264 : ∀ (vR : Ob), m_X1_readToken_j264 vt vR = some res → ∀ (H : Heap) (locs : List Loc) (ls : Array Slot), va_P G vwCl [oX1 aR aT aD vR, ai cI aT 200 vt] H → va_D A [oX1 aR aT aD vR, ai cI aT 200 vt] → va_S A s.heap H locs → lv_has ls 3 [] → W p l e rm_X1_readToken s m args below meth c H locs 0 0 Q (F0 m 264 ls [.ref (aR 0)]) := by
    intro vR h H locs ls hP hD hS hl
    unfold m_X1_readToken_j264 at h
    refine lv_iconst (v := (2 : Int32)) hx hb dX1_readToken_264 k_iconst_2 ?_
    refine lv_goto (tgt := 269) hx hb dX1_readToken_265 (by decide) ?_
    exact j269 vR (2 : Int32) h _ _ _ hP hD hS (lv_sub hl [] rfl)
  have j268 : ∀ (vR : Ob), m_X1_readToken_j268 vt vR = some res → ∀ (H : Heap) (locs : List Loc) (ls : Array Slot), va_P G vwCl [oX1 aR aT aD vR, ai cI aT 200 vt] H → va_D A [oX1 aR aT aD vR, ai cI aT 200 vt] → va_S A s.heap H locs → lv_has ls 3 [] → W p l e rm_X1_readToken s m args below meth c H locs 0 0 Q (F0 m 268 ls [.ref (aR 0)]) := by
    intro vR h H locs ls hP hD hS hl
    unfold m_X1_readToken_j268 at h
    refine lv_iconst (v := (4 : Int32)) hx hb dX1_readToken_268 k_iconst_4 ?_
    exact j269 vR (4 : Int32) h _ _ _ hP hD hS (lv_sub hl [] rfl)
  have L90 : ∀ (out : Ob × Int32), (∀ ex : Ob × Int32, out = ex → ∀ (H : Heap) (locs : List Loc) (ls : Array Slot), va_P G vwCl [oX1 aR aT aD ex.1, ai cI aT 200 vt] H → va_D A [oX1 aR aT aD ex.1, ai cI aT 200 vt] → va_S A s.heap H locs → lv_has ls 3 [(0, .ref (aR 0)), (1, .int ex.2)] → W p l e rm_X1_readToken s m args below meth c H locs 0 0 Q (F0 m 129 ls [])) → ∀ (n : Nat) (vR : Ob) (x1 : Int32), m_X1_readToken_L90 vt n vR x1 = some out → ∀ (H : Heap) (locs : List Loc) (ls : Array Slot), va_P G vwCl [oX1 aR aT aD vR, ai cI aT 200 vt] H → va_D A [oX1 aR aT aD vR, ai cI aT 200 vt] → va_S A s.heap H locs → lv_has ls 3 [(0, .ref (aR 0)), (1, .int x1)] → W p l e rm_X1_readToken s m args below meth c H locs 0 0 Q (F0 m 90 ls []) := by
    intro out hKx
    intro n
    induction n with
    | zero => intro vR x1 h; exact nomatch (show (none : Option (Ob × Int32)) = some out from h)
    | succ n hrc =>
      intro vR x1 h H locs ls hP hD hS hl
      have h : m_X1_readToken_L90B vt (m_X1_readToken_L90 vt n) vR x1 = some out := h
      generalize m_X1_readToken_L90 vt n = rc at h hrc
      unfold m_X1_readToken_L90B at h
      refine lv_aload_n hx hb dX1_readToken_90 rfl (lv_at hl 0 rfl) ?_
      refine va_get (D := G) (ci := 1) (v := .int (vR 0 3)) (C := RX1) (T := TX1) (N := 8) hx hb hts fi_X1_readToken_X1 hown hEN.1 hP 0 rfl rfl 3 (by decide) (hts (.fieldLink RX1 34 "HourWell$Reader" "next" "I") (List.mem_of_getElem? (i := 1) rfl)) (fun _ h9 => h9) rfl dX1_readToken_91 ?_
      refine lv_aload_n hx hb dX1_readToken_94 rfl (lv_at hl 0 rfl) ?_
      refine va_get (D := G) (ci := 1) (v := .int (vR 0 2)) (C := RX1) (T := TX1) (N := 8) hx hb hts fi_X1_readToken_X1 hown hEN.1 hP 0 rfl rfl 2 (by decide) (hts (.fieldLink RX1 30 "HourWell$Reader" "length" "I") (List.mem_of_getElem? (i := 2) rfl)) (fun _ h9 => h9) rfl dX1_readToken_95 ?_
      refine lv_icmp_ge (tgt := 129) hx hb dX1_readToken_98 (by decide) (fun c98 => ?_) (fun c98 => ?_)
      · have h := (if_pos c98).symm.trans h
        exact hKx _ (Option.some.inj h).symm _ _ _ hP hD hS (lv_sub hl [0, 1] rfl)
      · have h := (if_neg c98).symm.trans h
        refine lv_aload_n hx hb dX1_readToken_101 rfl (lv_at hl 0 rfl) ?_
        refine va_get (D := G) (ci := 1) (v := .ref aT) (C := RX1) (T := TX1) (N := 8) hx hb hts fi_X1_readToken_X1 hown hEN.1 hP 0 rfl rfl 0 (by decide) (hts (.fieldLink RX1 9 "HourWell$Reader" "text" "[I") (List.mem_of_getElem? (i := 3) rfl)) (fun _ h9 => h9) rfl dX1_readToken_102 ?_
        refine lv_aload_n hx hb dX1_readToken_105 rfl (lv_at hl 0 rfl) ?_
        refine va_get (D := G) (ci := 1) (v := .int (vR 0 3)) (C := RX1) (T := TX1) (N := 8) hx hb hts fi_X1_readToken_X1 hown hEN.1 hP 0 rfl rfl 3 (by decide) (hts (.fieldLink RX1 34 "HourWell$Reader" "next" "I") (List.mem_of_getElem? (i := 1) rfl)) (fun _ h9 => h9) rfl dX1_readToken_106 ?_
        obtain ⟨hg109, h⟩ := grd_some h
        refine va_iald (f := vt) hx hb hEN.1 hP 1 0 rfl rfl (inb_in hg109) dX1_readToken_109 ?_
        obtain ⟨o110, ho110, h⟩ := bnd_some h
        refine call_S0 (As := [.int (vt (Int32.toNatClampNeg (vR 0 3)))]) (rest := []) ⟨hx, hb, hml, hown, hts⟩ (c_X1_isLetter l G cI cZ  (vt (Int32.toNatClampNeg (vR 0 3))) o110 ho110) (va_cwS 1 hts gX1_readToken_X1_isLetter rfl rfl rfl hdS_X1_isLetter ⟨Nat.le_of_ble_eq_true rfl, Nat.le_of_ble_eq_true rfl⟩) hEN hA hP hD hS [] rfl (by decide) rfl hl.1 rfl (Nat.le_of_ble_eq_true rfl) dX1_readToken_110 ⟨Nat.le_of_ble_eq_true rfl, Nat.le_of_ble_eq_true rfl⟩ (fun H locs hP hS => ?_)
        refine lv_if_eq (tgt := 129) hx hb dX1_readToken_113 (by decide) (fun c113 => ?_) (fun c113 => ?_)
        · have h := (if_pos c113).symm.trans h
          exact hKx _ (Option.some.inj h).symm _ _ _ hP hD hS (lv_sub hl [0, 1] rfl)
        · have h := (if_neg c113).symm.trans h
          refine lv_aload_n hx hb dX1_readToken_116 rfl (lv_at hl 0 rfl) ?_
          refine lv_dup hx hb dX1_readToken_117 rfl ?_
          refine va_get (D := G) (ci := 1) (v := .int (vR 0 3)) (C := RX1) (T := TX1) (N := 8) hx hb hts fi_X1_readToken_X1 hown hEN.1 hP 0 rfl rfl 3 (by decide) (hts (.fieldLink RX1 34 "HourWell$Reader" "next" "I") (List.mem_of_getElem? (i := 1) rfl)) (fun _ h9 => h9) rfl dX1_readToken_118 ?_
          refine lv_iconst (v := (1 : Int32)) hx hb dX1_readToken_121 k_iconst_1 ?_
          refine lv_iadd hx hb dX1_readToken_122 ?_
          refine va_put (D := G) (ci := 1) (v := .int ((vR 0 3) + (1 : Int32))) (ty := .int) (C := RX1) (T := TX1) (N := 8) hx hb hts fi_X1_readToken_X1 tyX1 tyX1_ok nmX1 hown hEN.1 hP hD hS 0 rfl rfl 3 (by decide) (hts (.fieldLink RX1 34 "HourWell$Reader" "next" "I") (List.mem_of_getElem? (i := 1) rfl)) (fun _ h9 => h9) rfl (by decide +kernel) rfl rfl (Nat.le_of_ble_eq_true rfl) dX1_readToken_123 (fun H locs hP hD hS => ?_)
          have hP : va_P G vwCl [oX1 aR aT aD (st vR 0 3 ((vR 0 3) + (1 : Int32))), ai cI aT 200 vt] H := hP
          have hD : va_D A [oX1 aR aT aD (st vR 0 3 ((vR 0 3) + (1 : Int32))), ai cI aT 200 vt] := hD
          refine lv_goto (tgt := 90) hx hb dX1_readToken_126 (by decide) ?_
          exact hrc (st vR 0 3 ((vR 0 3) + (1 : Int32))) x1 h _ _ _ hP hD hS (lv_sub hl [0, 1] rfl)
  have j148 : ∀ (vR : Ob) (x1 : Int32) (s1 : Int32), m_X1_readToken_j148 vt vR x1 s1 = some res → ∀ (H : Heap) (locs : List Loc) (ls : Array Slot), va_P G vwCl [oX1 aR aT aD vR, ai cI aT 200 vt] H → va_D A [oX1 aR aT aD vR, ai cI aT 200 vt] → va_S A s.heap H locs → lv_has ls 3 [(0, .ref (aR 0)), (1, .int x1)] → W p l e rm_X1_readToken s m args below meth c H locs 0 0 Q (F0 m 148 ls [.int s1, .ref (aR 0)]) := by
    intro vR x1 s1 h H locs ls hP hD hS hl
    unfold m_X1_readToken_j148 at h
    refine va_put (D := G) (ci := 1) (v := .int s1) (ty := .int) (C := RX1) (T := TX1) (N := 8) hx hb hts fi_X1_readToken_X1 tyX1 tyX1_ok nmX1 hown hEN.1 hP hD hS 0 rfl rfl 5 (by decide) (hts (.fieldLink RX1 44 "HourWell$Reader" "kind" "I") (List.mem_of_getElem? (i := 5) rfl)) (fun _ h9 => h9) rfl (by decide +kernel) rfl rfl (Nat.le_of_ble_eq_true rfl) dX1_readToken_148 (fun H locs hP hD hS => ?_)
    have hP : va_P G vwCl [oX1 aR aT aD (st vR 0 5 s1), ai cI aT 200 vt] H := hP
    have hD : va_D A [oX1 aR aT aD (st vR 0 5 s1), ai cI aT 200 vt] := hD
    refine lv_aload_n hx hb dX1_readToken_151 rfl (lv_at hl 0 rfl) ?_
    refine lv_iload_n hx hb dX1_readToken_152 rfl (lv_at hl 1 rfl) ?_
    refine va_put (D := G) (ci := 1) (v := .int x1) (ty := .int) (C := RX1) (T := TX1) (N := 8) hx hb hts fi_X1_readToken_X1 tyX1 tyX1_ok nmX1 hown hEN.1 hP hD hS 0 rfl rfl 6 (by decide) (hts (.fieldLink RX1 57 "HourWell$Reader" "value" "I") (List.mem_of_getElem? (i := 6) rfl)) (fun _ h9 => h9) rfl (by decide +kernel) rfl rfl (Nat.le_of_ble_eq_true rfl) dX1_readToken_153 (fun H locs hP hD hS => ?_)
    have hP : va_P G vwCl [oX1 aR aT aD (st (st vR 0 5 s1) 0 6 x1), ai cI aT 200 vt] H := hP
    have hD : va_D A [oX1 aR aT aD (st (st vR 0 5 s1) 0 6 x1), ai cI aT 200 vt] := hD
    refine lv_goto (tgt := 290) hx hb dX1_readToken_156 (by decide) ?_
    have hres := Option.some.inj h
    subst hres
    exact hRet 290 _ _ _ hP hD hS dX1_readToken_290
  unfold m_X1_readToken at h
  obtain ⟨o0_1, ho0_1, h⟩ := bnd_some h
  refine L0 o0_1 (fun o0_1e er H locs ls hP hD hS hl => ?_) FU vR ho0_1 _ _ _ hP hD hS (lv_sub hl [0] rfl)
  subst er
  refine lv_aload_n hx hb dX1_readToken_38 rfl (lv_at hl 0 rfl) ?_
  refine lv_aload_n hx hb dX1_readToken_39 rfl (lv_at hl 0 rfl) ?_
  refine va_get (D := G) (ci := 1) (v := .int (o0_1 0 3)) (C := RX1) (T := TX1) (N := 8) hx hb hts fi_X1_readToken_X1 hown hEN.1 hP 0 rfl rfl 3 (by decide) (hts (.fieldLink RX1 34 "HourWell$Reader" "next" "I") (List.mem_of_getElem? (i := 1) rfl)) (fun _ h9 => h9) rfl dX1_readToken_40 ?_
  refine va_put (D := G) (ci := 1) (v := .int (o0_1 0 3)) (ty := .int) (C := RX1) (T := TX1) (N := 8) hx hb hts fi_X1_readToken_X1 tyX1 tyX1_ok nmX1 hown hEN.1 hP hD hS 0 rfl rfl 4 (by decide) (hts (.fieldLink RX1 54 "HourWell$Reader" "start" "I") (List.mem_of_getElem? (i := 4) rfl)) (fun _ h9 => h9) rfl (by decide +kernel) rfl rfl (Nat.le_of_ble_eq_true rfl) dX1_readToken_43 (fun H locs hP hD hS => ?_)
  have hP : va_P G vwCl [oX1 aR aT aD (st o0_1 0 4 (o0_1 0 3)), ai cI aT 200 vt] H := hP
  have hD : va_D A [oX1 aR aT aD (st o0_1 0 4 (o0_1 0 3)), ai cI aT 200 vt] := hD
  refine lv_aload_n hx hb dX1_readToken_46 rfl (lv_at hl 0 rfl) ?_
  refine lv_iconst (v := (0 : Int32)) hx hb dX1_readToken_47 k_iconst_0 ?_
  refine va_put (D := G) (ci := 1) (v := .int (0 : Int32)) (ty := .int) (C := RX1) (T := TX1) (N := 8) hx hb hts fi_X1_readToken_X1 tyX1 tyX1_ok nmX1 hown hEN.1 hP hD hS 0 rfl rfl 5 (by decide) (hts (.fieldLink RX1 44 "HourWell$Reader" "kind" "I") (List.mem_of_getElem? (i := 5) rfl)) (fun _ h9 => h9) rfl (by decide +kernel) rfl rfl (Nat.le_of_ble_eq_true rfl) dX1_readToken_48 (fun H locs hP hD hS => ?_)
  have hP : va_P G vwCl [oX1 aR aT aD (st (st o0_1 0 4 (o0_1 0 3)) 0 5 (0 : Int32)), ai cI aT 200 vt] H := hP
  have hD : va_D A [oX1 aR aT aD (st (st o0_1 0 4 (o0_1 0 3)) 0 5 (0 : Int32)), ai cI aT 200 vt] := hD
  refine lv_aload_n hx hb dX1_readToken_51 rfl (lv_at hl 0 rfl) ?_
  refine va_get (D := G) (ci := 1) (v := .int (o0_1 0 3)) (C := RX1) (T := TX1) (N := 8) hx hb hts fi_X1_readToken_X1 hown hEN.1 hP 0 rfl rfl 4 (by decide) (hts (.fieldLink RX1 54 "HourWell$Reader" "start" "I") (List.mem_of_getElem? (i := 4) rfl)) (fun _ h9 => h9) rfl dX1_readToken_52 ?_
  refine lv_aload_n hx hb dX1_readToken_55 rfl (lv_at hl 0 rfl) ?_
  refine va_get (D := G) (ci := 1) (v := .int (o0_1 0 2)) (C := RX1) (T := TX1) (N := 8) hx hb hts fi_X1_readToken_X1 hown hEN.1 hP 0 rfl rfl 2 (by decide) (hts (.fieldLink RX1 30 "HourWell$Reader" "length" "I") (List.mem_of_getElem? (i := 2) rfl)) (fun _ h9 => h9) rfl dX1_readToken_56 ?_
  refine lv_icmp_lt (tgt := 63) hx hb dX1_readToken_59 (by decide) (fun c59 => ?_) (fun c59 => ?_)
  · have h := (if_pos c59).symm.trans h
    refine lv_aload_n hx hb dX1_readToken_63 rfl (lv_at hl 0 rfl) ?_
    refine va_get (D := G) (ci := 1) (v := .ref aT) (C := RX1) (T := TX1) (N := 8) hx hb hts fi_X1_readToken_X1 hown hEN.1 hP 0 rfl rfl 0 (by decide) (hts (.fieldLink RX1 9 "HourWell$Reader" "text" "[I") (List.mem_of_getElem? (i := 3) rfl)) (fun _ h9 => h9) rfl dX1_readToken_64 ?_
    refine lv_aload_n hx hb dX1_readToken_67 rfl (lv_at hl 0 rfl) ?_
    refine va_get (D := G) (ci := 1) (v := .int (o0_1 0 3)) (C := RX1) (T := TX1) (N := 8) hx hb hts fi_X1_readToken_X1 hown hEN.1 hP 0 rfl rfl 4 (by decide) (hts (.fieldLink RX1 54 "HourWell$Reader" "start" "I") (List.mem_of_getElem? (i := 4) rfl)) (fun _ h9 => h9) rfl dX1_readToken_68 ?_
    obtain ⟨hg71, h⟩ := grd_some h
    refine va_iald (f := vt) hx hb hEN.1 hP 1 0 rfl rfl (inb_in hg71) dX1_readToken_71 ?_
    refine lv_istore_n (lv' := [(1, .int (vt (Int32.toNatClampNeg (o0_1 0 3)))), (0, .ref (aR 0))]) hx hb dX1_readToken_72 rfl hl (by decide) rfl (fun ls hl => ?_)
    refine lv_aload_n hx hb dX1_readToken_73 rfl (lv_at hl 1 rfl) ?_
    refine lv_dup hx hb dX1_readToken_74 rfl ?_
    refine va_get (D := G) (ci := 1) (v := .int (o0_1 0 3)) (C := RX1) (T := TX1) (N := 8) hx hb hts fi_X1_readToken_X1 hown hEN.1 hP 0 rfl rfl 3 (by decide) (hts (.fieldLink RX1 34 "HourWell$Reader" "next" "I") (List.mem_of_getElem? (i := 1) rfl)) (fun _ h9 => h9) rfl dX1_readToken_75 ?_
    refine lv_iconst (v := (1 : Int32)) hx hb dX1_readToken_78 k_iconst_1 ?_
    refine lv_iadd hx hb dX1_readToken_79 ?_
    refine va_put (D := G) (ci := 1) (v := .int ((o0_1 0 3) + (1 : Int32))) (ty := .int) (C := RX1) (T := TX1) (N := 8) hx hb hts fi_X1_readToken_X1 tyX1 tyX1_ok nmX1 hown hEN.1 hP hD hS 0 rfl rfl 3 (by decide) (hts (.fieldLink RX1 34 "HourWell$Reader" "next" "I") (List.mem_of_getElem? (i := 1) rfl)) (fun _ h9 => h9) rfl (by decide +kernel) rfl rfl (Nat.le_of_ble_eq_true rfl) dX1_readToken_80 (fun H locs hP hD hS => ?_)
    have hP : va_P G vwCl [oX1 aR aT aD (st (st (st o0_1 0 4 (o0_1 0 3)) 0 5 (0 : Int32)) 0 3 ((o0_1 0 3) + (1 : Int32))), ai cI aT 200 vt] H := hP
    have hD : va_D A [oX1 aR aT aD (st (st (st o0_1 0 4 (o0_1 0 3)) 0 5 (0 : Int32)) 0 3 ((o0_1 0 3) + (1 : Int32))), ai cI aT 200 vt] := hD
    refine lv_iload_n hx hb dX1_readToken_83 rfl (lv_at hl 0 rfl) ?_
    obtain ⟨o84, ho84, h⟩ := bnd_some h
    refine call_S0 (As := [.int (vt (Int32.toNatClampNeg (o0_1 0 3)))]) (rest := []) ⟨hx, hb, hml, hown, hts⟩ (c_X1_isLetter l G cI cZ  (vt (Int32.toNatClampNeg (o0_1 0 3))) o84 ho84) (va_cwS 1 hts gX1_readToken_X1_isLetter rfl rfl rfl hdS_X1_isLetter ⟨Nat.le_of_ble_eq_true rfl, Nat.le_of_ble_eq_true rfl⟩) hEN hA hP hD hS [] rfl (by decide) rfl hl.1 rfl (Nat.le_of_ble_eq_true rfl) dX1_readToken_84 ⟨Nat.le_of_ble_eq_true rfl, Nat.le_of_ble_eq_true rfl⟩ (fun H locs hP hS => ?_)
    refine lv_if_eq (tgt := 159) hx hb dX1_readToken_87 (by decide) (fun c87 => ?_) (fun c87 => ?_)
    · have h := (if_pos c87).symm.trans h
      refine lv_iload_n hx hb dX1_readToken_159 rfl (lv_at hl 0 rfl) ?_
      obtain ⟨o160, ho160, h⟩ := bnd_some h
      refine call_S0 (As := [.int (vt (Int32.toNatClampNeg (o0_1 0 3)))]) (rest := []) ⟨hx, hb, hml, hown, hts⟩ (c_X1_isDigit l G cI cZ  (vt (Int32.toNatClampNeg (o0_1 0 3))) o160 ho160) (va_cwS 1 hts gX1_readToken_X1_isDigit rfl rfl rfl hdS_X1_isDigit ⟨Nat.le_of_ble_eq_true rfl, Nat.le_of_ble_eq_true rfl⟩) hEN hA hP hD hS [] rfl (by decide) rfl hl.1 rfl (Nat.le_of_ble_eq_true rfl) dX1_readToken_160 ⟨Nat.le_of_ble_eq_true rfl, Nat.le_of_ble_eq_true rfl⟩ (fun H locs hP hS => ?_)
      refine lv_if_eq (tgt := 275) hx hb dX1_readToken_163 (by decide) (fun c163 => ?_) (fun c163 => ?_)
      · have h := (if_pos c163).symm.trans h
        refine lv_aload_n hx hb dX1_readToken_275 rfl (lv_at hl 1 rfl) ?_
        refine lv_iload_n hx hb dX1_readToken_276 rfl (lv_at hl 0 rfl) ?_
        refine lv_bipush (v := (59 : Int32)) hx hb dX1_readToken_277 k_bipush_59 ?_
        refine lv_icmp_ne (tgt := 286) hx hb dX1_readToken_279 (by decide) (fun c279 => ?_) (fun c279 => ?_)
        · have h := (if_neg c279).symm.trans h
          refine lv_iconst (v := (4 : Int32)) hx hb dX1_readToken_286 k_iconst_4 ?_
          refine va_put (D := G) (ci := 1) (v := .int (4 : Int32)) (ty := .int) (C := RX1) (T := TX1) (N := 8) hx hb hts fi_X1_readToken_X1 tyX1 tyX1_ok nmX1 hown hEN.1 hP hD hS 0 rfl rfl 5 (by decide) (hts (.fieldLink RX1 44 "HourWell$Reader" "kind" "I") (List.mem_of_getElem? (i := 5) rfl)) (fun _ h9 => h9) rfl (by decide +kernel) rfl rfl (Nat.le_of_ble_eq_true rfl) dX1_readToken_287 (fun H locs hP hD hS => ?_)
          have hP : va_P G vwCl [oX1 aR aT aD (st (st (st (st o0_1 0 4 (o0_1 0 3)) 0 5 (0 : Int32)) 0 3 ((o0_1 0 3) + (1 : Int32))) 0 5 (4 : Int32)), ai cI aT 200 vt] H := hP
          have hD : va_D A [oX1 aR aT aD (st (st (st (st o0_1 0 4 (o0_1 0 3)) 0 5 (0 : Int32)) 0 3 ((o0_1 0 3) + (1 : Int32))) 0 5 (4 : Int32)), ai cI aT 200 vt] := hD
          have hres := Option.some.inj h
          subst hres
          exact hRet 290 _ _ _ hP hD hS dX1_readToken_290
        · have h := (if_pos c279).symm.trans h
          refine lv_iconst (v := (3 : Int32)) hx hb dX1_readToken_282 k_iconst_3 ?_
          refine lv_goto (tgt := 287) hx hb dX1_readToken_283 (by decide) ?_
          refine va_put (D := G) (ci := 1) (v := .int (3 : Int32)) (ty := .int) (C := RX1) (T := TX1) (N := 8) hx hb hts fi_X1_readToken_X1 tyX1 tyX1_ok nmX1 hown hEN.1 hP hD hS 0 rfl rfl 5 (by decide) (hts (.fieldLink RX1 44 "HourWell$Reader" "kind" "I") (List.mem_of_getElem? (i := 5) rfl)) (fun _ h9 => h9) rfl (by decide +kernel) rfl rfl (Nat.le_of_ble_eq_true rfl) dX1_readToken_287 (fun H locs hP hD hS => ?_)
          have hP : va_P G vwCl [oX1 aR aT aD (st (st (st (st o0_1 0 4 (o0_1 0 3)) 0 5 (0 : Int32)) 0 3 ((o0_1 0 3) + (1 : Int32))) 0 5 (3 : Int32)), ai cI aT 200 vt] H := hP
          have hD : va_D A [oX1 aR aT aD (st (st (st (st o0_1 0 4 (o0_1 0 3)) 0 5 (0 : Int32)) 0 3 ((o0_1 0 3) + (1 : Int32))) 0 5 (3 : Int32)), ai cI aT 200 vt] := hD
          have hres := Option.some.inj h
          subst hres
          exact hRet 290 _ _ _ hP hD hS dX1_readToken_290
      · have h := (if_neg c163).symm.trans h
        refine lv_aload_n hx hb dX1_readToken_166 rfl (lv_at hl 1 rfl) ?_
        refine lv_iload_n hx hb dX1_readToken_167 rfl (lv_at hl 0 rfl) ?_
        refine lv_bipush (v := (48 : Int32)) hx hb dX1_readToken_168 k_bipush_48 ?_
        refine lv_isub hx hb dX1_readToken_170 ?_
        refine va_put (D := G) (ci := 1) (v := .int ((vt (Int32.toNatClampNeg (o0_1 0 3))) - (48 : Int32))) (ty := .int) (C := RX1) (T := TX1) (N := 8) hx hb hts fi_X1_readToken_X1 tyX1 tyX1_ok nmX1 hown hEN.1 hP hD hS 0 rfl rfl 6 (by decide) (hts (.fieldLink RX1 57 "HourWell$Reader" "value" "I") (List.mem_of_getElem? (i := 6) rfl)) (fun _ h9 => h9) rfl (by decide +kernel) rfl rfl (Nat.le_of_ble_eq_true rfl) dX1_readToken_171 (fun H locs hP hD hS => ?_)
        have hP : va_P G vwCl [oX1 aR aT aD (st (st (st (st o0_1 0 4 (o0_1 0 3)) 0 5 (0 : Int32)) 0 3 ((o0_1 0 3) + (1 : Int32))) 0 6 ((vt (Int32.toNatClampNeg (o0_1 0 3))) - (48 : Int32))), ai cI aT 200 vt] H := hP
        have hD : va_D A [oX1 aR aT aD (st (st (st (st o0_1 0 4 (o0_1 0 3)) 0 5 (0 : Int32)) 0 3 ((o0_1 0 3) + (1 : Int32))) 0 6 ((vt (Int32.toNatClampNeg (o0_1 0 3))) - (48 : Int32))), ai cI aT 200 vt] := hD
        obtain ⟨o174_2, ho174_2, h⟩ := bnd_some h
        refine L174 o174_2 (fun o174_2e er H locs ls hP hD hS hl => ?_) FU (st (st (st (st o0_1 0 4 (o0_1 0 3)) 0 5 (0 : Int32)) 0 3 ((o0_1 0 3) + (1 : Int32))) 0 6 ((vt (Int32.toNatClampNeg (o0_1 0 3))) - (48 : Int32))) (vt (Int32.toNatClampNeg (o0_1 0 3))) ho174_2 _ _ _ hP hD hS (lv_sub hl [1, 0] rfl)
        subst er
        refine lv_aload_n hx hb dX1_readToken_237 rfl (lv_at hl 0 rfl) ?_
        refine va_get (D := G) (ci := 1) (v := .int (o174_2.1 0 3)) (C := RX1) (T := TX1) (N := 8) hx hb hts fi_X1_readToken_X1 hown hEN.1 hP 0 rfl rfl 3 (by decide) (hts (.fieldLink RX1 34 "HourWell$Reader" "next" "I") (List.mem_of_getElem? (i := 1) rfl)) (fun _ h9 => h9) rfl dX1_readToken_238 ?_
        refine lv_aload_n hx hb dX1_readToken_241 rfl (lv_at hl 0 rfl) ?_
        refine va_get (D := G) (ci := 1) (v := .int (o174_2.1 0 4)) (C := RX1) (T := TX1) (N := 8) hx hb hts fi_X1_readToken_X1 hown hEN.1 hP 0 rfl rfl 4 (by decide) (hts (.fieldLink RX1 54 "HourWell$Reader" "start" "I") (List.mem_of_getElem? (i := 4) rfl)) (fun _ h9 => h9) rfl dX1_readToken_242 ?_
        refine lv_isub hx hb dX1_readToken_245 ?_
        refine lv_istore_n (lv' := [(2, .int ((o174_2.1 0 3) - (o174_2.1 0 4))), (0, .ref (aR 0)), (1, .int o174_2.2)]) hx hb dX1_readToken_246 rfl hl (by decide) rfl (fun ls hl => ?_)
        refine lv_aload_n hx hb dX1_readToken_247 rfl (lv_at hl 1 rfl) ?_
        refine lv_iload_n hx hb dX1_readToken_248 rfl (lv_at hl 0 rfl) ?_
        refine lv_iconst (v := (1 : Int32)) hx hb dX1_readToken_249 k_iconst_1 ?_
        refine lv_icmp_eq (tgt := 264) hx hb dX1_readToken_250 (by decide) (fun c250 => ?_) (fun c250 => ?_)
        · have h := (if_pos c250).symm.trans h
          exact j264 o174_2.1 h _ _ _ hP hD hS (lv_sub hl [] rfl)
        · have h := (if_neg c250).symm.trans h
          refine lv_iload_n hx hb dX1_readToken_253 rfl (lv_at hl 0 rfl) ?_
          refine lv_iconst (v := (2 : Int32)) hx hb dX1_readToken_254 k_iconst_2 ?_
          refine lv_icmp_ne (tgt := 268) hx hb dX1_readToken_255 (by decide) (fun c255 => ?_) (fun c255 => ?_)
          · have h := (if_neg c255).symm.trans h
            exact j268 o174_2.1 h _ _ _ hP hD hS (lv_sub hl [] rfl)
          · have h := (if_pos c255).symm.trans h
            refine lv_iload_n hx hb dX1_readToken_258 rfl (lv_at hl 2 rfl) ?_
            refine lv_bipush (v := (48 : Int32)) hx hb dX1_readToken_259 k_bipush_48 ?_
            refine lv_icmp_eq (tgt := 268) hx hb dX1_readToken_261 (by decide) (fun c261 => ?_) (fun c261 => ?_)
            · have h := (if_pos c261).symm.trans h
              exact j268 o174_2.1 h _ _ _ hP hD hS (lv_sub hl [] rfl)
            · have h := (if_neg c261).symm.trans h
              exact j264 o174_2.1 h _ _ _ hP hD hS (lv_sub hl [] rfl)
    · have h := (if_neg c87).symm.trans h
      obtain ⟨o90_3, ho90_3, h⟩ := bnd_some h
      refine L90 o90_3 (fun o90_3e er H locs ls hP hD hS hl => ?_) FU (st (st (st o0_1 0 4 (o0_1 0 3)) 0 5 (0 : Int32)) 0 3 ((o0_1 0 3) + (1 : Int32))) (vt (Int32.toNatClampNeg (o0_1 0 3))) ho90_3 _ _ _ hP hD hS (lv_sub hl [1, 0] rfl)
      subst er
      refine lv_aload_n hx hb dX1_readToken_129 rfl (lv_at hl 0 rfl) ?_
      refine lv_aload_n hx hb dX1_readToken_130 rfl (lv_at hl 0 rfl) ?_
      refine va_get (D := G) (ci := 1) (v := .int (o90_3.1 0 3)) (C := RX1) (T := TX1) (N := 8) hx hb hts fi_X1_readToken_X1 hown hEN.1 hP 0 rfl rfl 3 (by decide) (hts (.fieldLink RX1 34 "HourWell$Reader" "next" "I") (List.mem_of_getElem? (i := 1) rfl)) (fun _ h9 => h9) rfl dX1_readToken_131 ?_
      refine lv_aload_n hx hb dX1_readToken_134 rfl (lv_at hl 0 rfl) ?_
      refine va_get (D := G) (ci := 1) (v := .int (o90_3.1 0 4)) (C := RX1) (T := TX1) (N := 8) hx hb hts fi_X1_readToken_X1 hown hEN.1 hP 0 rfl rfl 4 (by decide) (hts (.fieldLink RX1 54 "HourWell$Reader" "start" "I") (List.mem_of_getElem? (i := 4) rfl)) (fun _ h9 => h9) rfl dX1_readToken_135 ?_
      refine lv_isub hx hb dX1_readToken_138 ?_
      refine lv_iconst (v := (1 : Int32)) hx hb dX1_readToken_139 k_iconst_1 ?_
      refine lv_icmp_ne (tgt := 147) hx hb dX1_readToken_140 (by decide) (fun c140 => ?_) (fun c140 => ?_)
      · have h := (if_neg c140).symm.trans h
        refine lv_iconst (v := (4 : Int32)) hx hb dX1_readToken_147 k_iconst_4 ?_
        exact j148 o90_3.1 o90_3.2 (4 : Int32) h _ _ _ hP hD hS (lv_sub hl [0, 1] rfl)
      · have h := (if_pos c140).symm.trans h
        refine lv_iconst (v := (1 : Int32)) hx hb dX1_readToken_143 k_iconst_1 ?_
        refine lv_goto (tgt := 148) hx hb dX1_readToken_144 (by decide) ?_
        exact j148 o90_3.1 o90_3.2 (1 : Int32) h _ _ _ hP hD hS (lv_sub hl [0, 1] rfl)
  · have h := (if_neg c59).symm.trans h
    have hres := Option.some.inj h
    subst hres
    exact hRet 62 _ _ _ hP hD hS dX1_readToken_62
abbrev rm_X1_readsPlace : Room := { frames := 2, cells := 0, slots := 0, locals := 42 }
theorem fi_X1_readsPlace_X1 : ∀ w ∈ wsX10, w ∈ wsX1_readsPlace := fun _ h => List.mem_cons_of_mem _ (List.mem_append_left _ (List.mem_append_right _ h))
theorem fi_X1_readsPlace_X4 : ∀ w ∈ wsX40, w ∈ wsX1_readsPlace := fun _ h => List.mem_cons_of_mem _ (List.mem_append_right _ h)
theorem hdV_X1_readsPlace : yX1_readsPlace.cls = RX1 ∧ yX1_readsPlace.cls ≠ "java/lang/invoke/MethodHandle" ∧ yX1_readsPlace.cls ≠ "java/lang/invoke/VarHandle" ∧ (parseMethodDescriptor yX1_readsPlace.desc).map (fun d => d.parameters.length) = some 0 := by decide +kernel
set_option maxRecDepth 100000 in
set_option maxHeartbeats 4000000 in
theorem c_X1_readsPlace (l : Launch) (G : va_G) (cI cZ : ClassId) (aR : Nat → Nat) (aD : Nat → Nat) (aT : Nat) (vR : Ob) (vD : Ob) (vt : (Nat → Int32))  (res : Int32 × Ob) (h : m_X1_readsPlace vR vD vt  = some res) : Ct l yX1_readsPlace wsX1_readsPlace rm_X1_readsPlace G cI cZ [.ref (aR 0)] [oX1 aR aT aD vR, oX4 aD vD, ai cI aT 200 vt] (some (.int res.1)) [oX1 aR aT aD res.2, oX4 aD vD, ai cI aT 200 vt] := by
  refine Ct.of_z (maxL := 1) (by decide) rfl (Nat.le_of_ble_eq_true rfl) ?_
  intro p e s m below meth c args hx hb hml hown hts A hA hEN hP hD hS Q hRet ls hl
  have hown : s.vm.findClass RX1 = some m.cls := hown
  have hl : lv_has ls 1 [(0, .ref (aR 0))] := hl
  unfold m_X1_readsPlace at h
  refine lv_aload_n hx hb dX1_readsPlace_0 rfl (lv_at hl 0 rfl) ?_
  obtain ⟨o1, ho1, h⟩ := bnd_some h
  refine call_VJ (wr := [oX4 aD vD]) (As := []) (rest := []) ⟨hx, hb, hml, hown, hts⟩ (c_X1_readToken l G cI cZ aR aD aT vR vt o1 ho1) (cwV 0 hts gX1_readsPlace_X1_readToken rfl rfl rfl hdV_X1_readToken ⟨Nat.le_of_ble_eq_true rfl, Nat.le_of_ble_eq_true rfl⟩) hEN hA hP hD hS [0, 2] [1] rfl (by decide) rfl (by decide) (by decide) 0 rfl rfl rfl hl.1 rfl (Nat.le_of_ble_eq_true rfl) dX1_readsPlace_1 ⟨Nat.le_of_ble_eq_true rfl, Nat.le_of_ble_eq_true rfl⟩ (fun H locs hP hD hS => ?_)
  have hP : va_P G vwCl [oX4 aD vD, oX1 aR aT aD o1, ai cI aT 200 vt] H := hP
  have hD : va_D A [oX4 aD vD, oX1 aR aT aD o1, ai cI aT 200 vt] := hD
  refine lv_aload_n hx hb dX1_readsPlace_4 rfl (lv_at hl 0 rfl) ?_
  refine va_get (D := G) (ci := 1) (v := .int (o1 0 5)) (C := RX1) (T := TX1) (N := 8) hx hb hts fi_X1_readsPlace_X1 hown hEN.1 hP 1 rfl rfl 5 (by decide) (hts (.fieldLink RX1 44 "HourWell$Reader" "kind" "I") (List.mem_of_getElem? (i := 1) rfl)) (fun _ h9 => h9) rfl dX1_readsPlace_5 ?_
  refine lv_iconst (v := (2 : Int32)) hx hb dX1_readsPlace_8 k_iconst_2 ?_
  refine lv_icmp_ne (tgt := 30) hx hb dX1_readsPlace_9 (by decide) (fun c9 => ?_) (fun c9 => ?_)
  · have h := (if_neg c9).symm.trans h
    refine lv_iconst (v := (0 : Int32)) hx hb dX1_readsPlace_30 k_iconst_0 ?_
    have hres := Option.some.inj h
    subst hres
    exact hRet 31 nz0 _ _ _ (hP.sub [1, 0, 2] rfl) (hD.sub [1, 0, 2] (by decide) rfl) hS dX1_readsPlace_31
  · have h := (if_pos c9).symm.trans h
    refine lv_aload_n hx hb dX1_readsPlace_12 rfl (lv_at hl 0 rfl) ?_
    refine va_get (D := G) (ci := 1) (v := .ref (aD 0)) (C := RX1) (T := TX1) (N := 8) hx hb hts fi_X1_readsPlace_X1 hown hEN.1 hP 1 rfl rfl 1 (by decide) (hts (.fieldLink RX1 15 "HourWell$Reader" "world" "LHourWell$World;") (List.mem_of_getElem? (i := 2) rfl)) (fun _ h9 => h9) rfl dX1_readsPlace_13 ?_
    refine lv_aload_n hx hb dX1_readsPlace_16 rfl (lv_at hl 0 rfl) ?_
    refine va_get (D := G) (ci := 1) (v := .int (o1 0 6)) (C := RX1) (T := TX1) (N := 8) hx hb hts fi_X1_readsPlace_X1 hown hEN.1 hP 1 rfl rfl 6 (by decide) (hts (.fieldLink RX1 57 "HourWell$Reader" "value" "I") (List.mem_of_getElem? (i := 3) rfl)) (fun _ h9 => h9) rfl dX1_readsPlace_17 ?_
    obtain ⟨o20, ho20, h⟩ := bnd_some h
    refine call_V0 (As := [.int (o1 0 6)]) (rest := []) ⟨hx, hb, hml, hown, hts⟩ (c_X4_hasPlace l G cI cZ aD vD (o1 0 6) o20 ho20) (cwV 1 hts gX1_readsPlace_X4_hasPlace rfl rfl rfl hdV_X4_hasPlace ⟨Nat.le_of_ble_eq_true rfl, Nat.le_of_ble_eq_true rfl⟩) hEN hA hP hD hS [0] rfl (by decide) 0 rfl rfl rfl hl.1 rfl (Nat.le_of_ble_eq_true rfl) dX1_readsPlace_20 ⟨Nat.le_of_ble_eq_true rfl, Nat.le_of_ble_eq_true rfl⟩ (fun H locs hP hS => ?_)
    refine lv_if_eq (tgt := 30) hx hb dX1_readsPlace_23 (by decide) (fun c23 => ?_) (fun c23 => ?_)
    · have h := (if_pos c23).symm.trans h
      refine lv_iconst (v := (0 : Int32)) hx hb dX1_readsPlace_30 k_iconst_0 ?_
      have hres := Option.some.inj h
      subst hres
      exact hRet 31 nz0 _ _ _ (hP.sub [1, 0, 2] rfl) (hD.sub [1, 0, 2] (by decide) rfl) hS dX1_readsPlace_31
    · have h := (if_neg c23).symm.trans h
      refine lv_iconst (v := (1 : Int32)) hx hb dX1_readsPlace_26 k_iconst_1 ?_
      refine lv_goto (tgt := 31) hx hb dX1_readsPlace_27 (by decide) ?_
      have hres := Option.some.inj h
      subst hres
      exact hRet 31 nz1 _ _ _ (hP.sub [1, 0, 2] rfl) (hD.sub [1, 0, 2] (by decide) rfl) hS dX1_readsPlace_31
abbrev rm_X1_readsNumber : Room := { frames := 2, cells := 0, slots := 0, locals := 42 }
theorem fi_X1_readsNumber_X1 : ∀ w ∈ wsX10, w ∈ wsX1_readsNumber := fun _ h => List.mem_cons_of_mem _ (List.mem_append_right _ h)
theorem hdV_X1_readsNumber : yX1_readsNumber.cls = RX1 ∧ yX1_readsNumber.cls ≠ "java/lang/invoke/MethodHandle" ∧ yX1_readsNumber.cls ≠ "java/lang/invoke/VarHandle" ∧ (parseMethodDescriptor yX1_readsNumber.desc).map (fun d => d.parameters.length) = some 2 := by decide +kernel
set_option maxRecDepth 100000 in
set_option maxHeartbeats 4000000 in
theorem c_X1_readsNumber (l : Launch) (G : va_G) (cI cZ : ClassId) (aR : Nat → Nat) (aD : Nat → Nat) (aT : Nat) (vR : Ob) (vt : (Nat → Int32)) (x1 : Int32) (x2 : Int32) (res : Int32 × Ob) (h : m_X1_readsNumber vR vt x1 x2 = some res) : Ct l yX1_readsNumber wsX1_readsNumber rm_X1_readsNumber G cI cZ [.ref (aR 0), .int x1, .int x2] [oX1 aR aT aD vR, ai cI aT 200 vt] (some (.int res.1)) [oX1 aR aT aD res.2, ai cI aT 200 vt] := by
  refine Ct.of_z (maxL := 3) (by decide) rfl (Nat.le_of_ble_eq_true rfl) ?_
  intro p e s m below meth c args hx hb hml hown hts A hA hEN hP hD hS Q hRet ls hl
  have hown : s.vm.findClass RX1 = some m.cls := hown
  have hl : lv_has ls 3 [(0, .ref (aR 0)), (1, .int x1), (2, .int x2)] := hl
  unfold m_X1_readsNumber at h
  refine lv_aload_n hx hb dX1_readsNumber_0 rfl (lv_at hl 0 rfl) ?_
  obtain ⟨o1, ho1, h⟩ := bnd_some h
  refine call_VJ (wr := []) (As := []) (rest := []) ⟨hx, hb, hml, hown, hts⟩ (c_X1_readToken l G cI cZ aR aD aT vR vt o1 ho1) (cwV 0 hts gX1_readsNumber_X1_readToken rfl rfl rfl hdV_X1_readToken ⟨Nat.le_of_ble_eq_true rfl, Nat.le_of_ble_eq_true rfl⟩) hEN hA hP hD hS [0, 1] [] rfl (by decide) rfl (by decide) (by decide) 0 rfl rfl rfl hl.1 rfl (Nat.le_of_ble_eq_true rfl) dX1_readsNumber_1 ⟨Nat.le_of_ble_eq_true rfl, Nat.le_of_ble_eq_true rfl⟩ (fun H locs hP hD hS => ?_)
  have hP : va_P G vwCl [oX1 aR aT aD o1, ai cI aT 200 vt] H := hP
  have hD : va_D A [oX1 aR aT aD o1, ai cI aT 200 vt] := hD
  refine lv_aload_n hx hb dX1_readsNumber_4 rfl (lv_at hl 0 rfl) ?_
  refine va_get (D := G) (ci := 1) (v := .int (o1 0 5)) (C := RX1) (T := TX1) (N := 8) hx hb hts fi_X1_readsNumber_X1 hown hEN.1 hP 0 rfl rfl 5 (by decide) (hts (.fieldLink RX1 44 "HourWell$Reader" "kind" "I") (List.mem_of_getElem? (i := 1) rfl)) (fun _ h9 => h9) rfl dX1_readsNumber_5 ?_
  refine lv_iconst (v := (2 : Int32)) hx hb dX1_readsNumber_8 k_iconst_2 ?_
  refine lv_icmp_ne (tgt := 28) hx hb dX1_readsNumber_9 (by decide) (fun c9 => ?_) (fun c9 => ?_)
  · have h := (if_neg c9).symm.trans h
    refine lv_iconst (v := (0 : Int32)) hx hb dX1_readsNumber_28 k_iconst_0 ?_
    have hres := Option.some.inj h
    subst hres
    exact hRet 29 nz0 _ _ _ hP hD hS dX1_readsNumber_29
  · have h := (if_pos c9).symm.trans h
    refine lv_aload_n hx hb dX1_readsNumber_12 rfl (lv_at hl 0 rfl) ?_
    refine va_get (D := G) (ci := 1) (v := .int (o1 0 6)) (C := RX1) (T := TX1) (N := 8) hx hb hts fi_X1_readsNumber_X1 hown hEN.1 hP 0 rfl rfl 6 (by decide) (hts (.fieldLink RX1 57 "HourWell$Reader" "value" "I") (List.mem_of_getElem? (i := 2) rfl)) (fun _ h9 => h9) rfl dX1_readsNumber_13 ?_
    refine lv_iload_n hx hb dX1_readsNumber_16 rfl (lv_at hl 1 rfl) ?_
    refine lv_iload_n hx hb dX1_readsNumber_17 rfl (lv_at hl 2 rfl) ?_
    obtain ⟨o18, ho18, h⟩ := bnd_some h
    refine call_SN0 (As := [.int (o1 0 6), .int x1, .int x2]) (rest := []) ⟨hx, hb, hml, hown, hts⟩ (c_X5_isWithin l G cI cZ  (o1 0 6) x1 x2 o18 ho18) ⟨va_cnB 3 hts gX1_readsNumber_X5_isWithin_n121 rfl rfl rfl (hEN.2.1 _ (List.mem_of_getElem? (i := 4) rfl)) (hts (.initialized RX5) (List.mem_of_getElem? (i := 19) rfl)) hdS_X5_isWithin ⟨Nat.le_of_ble_eq_true rfl, Nat.le_of_ble_eq_true rfl⟩, hts (.static yX5_isWithin) (List.mem_of_getElem? (i := 18) rfl), trivial⟩ hEN hA hP hD hS [] rfl (by decide) rfl hl.1 rfl (Nat.le_of_ble_eq_true rfl) dX1_readsNumber_18 ⟨Nat.le_of_ble_eq_true rfl, Nat.le_of_ble_eq_true rfl⟩ (fun H locs hP hS => ?_)
    refine lv_if_eq (tgt := 28) hx hb dX1_readsNumber_21 (by decide) (fun c21 => ?_) (fun c21 => ?_)
    · have h := (if_pos c21).symm.trans h
      refine lv_iconst (v := (0 : Int32)) hx hb dX1_readsNumber_28 k_iconst_0 ?_
      have hres := Option.some.inj h
      subst hres
      exact hRet 29 nz0 _ _ _ hP hD hS dX1_readsNumber_29
    · have h := (if_neg c21).symm.trans h
      refine lv_iconst (v := (1 : Int32)) hx hb dX1_readsNumber_24 k_iconst_1 ?_
      refine lv_goto (tgt := 29) hx hb dX1_readsNumber_25 (by decide) ?_
      have hres := Option.some.inj h
      subst hres
      exact hRet 29 nz1 _ _ _ hP hD hS dX1_readsNumber_29
abbrev rm_X1_readsRoad : Room := { frames := 3, cells := 0, slots := 0, locals := 64 }
theorem fi_X1_readsRoad_X1 : ∀ w ∈ wsX10, w ∈ wsX1_readsRoad := fun _ h => List.mem_cons_of_mem _ (List.mem_append_left _ (List.mem_append_right _ h))
theorem fi_X1_readsRoad_X4 : ∀ w ∈ wsX40, w ∈ wsX1_readsRoad := fun _ h => List.mem_cons_of_mem _ (List.mem_append_right _ h)
theorem hdV_X1_readsRoad : yX1_readsRoad.cls = RX1 ∧ yX1_readsRoad.cls ≠ "java/lang/invoke/MethodHandle" ∧ yX1_readsRoad.cls ≠ "java/lang/invoke/VarHandle" ∧ (parseMethodDescriptor yX1_readsRoad.desc).map (fun d => d.parameters.length) = some 0 := by decide +kernel
set_option maxRecDepth 100000 in
set_option maxHeartbeats 4000000 in
theorem c_X1_readsRoad (l : Launch) (G : va_G) (cI cZ : ClassId) (aR : Nat → Nat) (aD : Nat → Nat) (aT : Nat) (vR : Ob) (vD : Ob) (vt : (Nat → Int32))  (res : Int32 × Ob × Ob) (h : m_X1_readsRoad vR vD vt  = some res) : Ct l yX1_readsRoad wsX1_readsRoad rm_X1_readsRoad G cI cZ [.ref (aR 0)] [oX1 aR aT aD vR, oX4 aD vD, ai cI (aD 5) 7 (vD 5), ai cI (aD 6) 7 (vD 6), ai cI (aD 7) 7 (vD 7), ai cI (aD 8) 9 (vD 8), ai cI (aD 9) 9 (vD 9), ai cI (aD 10) 9 (vD 10), ai cI (aD 11) 6 (vD 11), ai cI (aD 12) 6 (vD 12), ai cI (aD 13) 6 (vD 13), ai cI aT 200 vt] (some (.int res.1)) [oX1 aR aT aD res.2.1, oX4 aD res.2.2, ai cI (aD 5) 7 (res.2.2 5), ai cI (aD 6) 7 (res.2.2 6), ai cI (aD 7) 7 (res.2.2 7), ai cI (aD 8) 9 (res.2.2 8), ai cI (aD 9) 9 (res.2.2 9), ai cI (aD 10) 9 (res.2.2 10), ai cI (aD 11) 6 (res.2.2 11), ai cI (aD 12) 6 (res.2.2 12), ai cI (aD 13) 6 (res.2.2 13), ai cI aT 200 vt] := by
  refine Ct.of_z (maxL := 3) (by decide) rfl (Nat.le_of_ble_eq_true rfl) ?_
  intro p e s m below meth c args hx hb hml hown hts A hA hEN hP hD hS Q hRet ls hl
  have hown : s.vm.findClass RX1 = some m.cls := hown
  have hl : lv_has ls 3 [(0, .ref (aR 0))] := hl
  unfold m_X1_readsRoad at h
  refine lv_aload_n hx hb dX1_readsRoad_0 rfl (lv_at hl 0 rfl) ?_
  refine va_get (D := G) (ci := 1) (v := .ref (aD 0)) (C := RX1) (T := TX1) (N := 8) hx hb hts fi_X1_readsRoad_X1 hown hEN.1 hP 0 rfl rfl 1 (by decide) (hts (.fieldLink RX1 15 "HourWell$Reader" "world" "LHourWell$World;") (List.mem_of_getElem? (i := 1) rfl)) (fun _ h9 => h9) rfl dX1_readsRoad_1 ?_
  refine va_get (D := G) (ci := 4) (v := .int (vD 0 1)) (C := RX4) (T := TX4) (N := 13) hx hb hts fi_X1_readsRoad_X4 hown hEN.1 hP 1 rfl rfl 1 (by decide) (hts (.fieldLink RX1 78 "HourWell$World" "roads" "I") (List.mem_of_getElem? (i := 2) rfl)) (fun _ h9 => h9) rfl dX1_readsRoad_4 ?_
  refine lv_bipush (v := (9 : Int32)) hx hb dX1_readsRoad_7 k_bipush_9 ?_
  refine lv_icmp_ge (tgt := 19) hx hb dX1_readsRoad_9 (by decide) (fun c9 => ?_) (fun c9 => ?_)
  · have h := (if_pos c9).symm.trans h
    refine lv_iconst (v := (0 : Int32)) hx hb dX1_readsRoad_19 k_iconst_0 ?_
    have hres := Option.some.inj h
    subst hres
    exact hRet 20 nz0 _ _ _ hP hD hS dX1_readsRoad_20
  · have h := (if_neg c9).symm.trans h
    refine lv_aload_n hx hb dX1_readsRoad_12 rfl (lv_at hl 0 rfl) ?_
    obtain ⟨o13, ho13, h⟩ := bnd_some h
    refine call_VJ (wr := [ai cI (aD 5) 7 (vD 5), ai cI (aD 6) 7 (vD 6), ai cI (aD 7) 7 (vD 7), ai cI (aD 8) 9 (vD 8), ai cI (aD 9) 9 (vD 9), ai cI (aD 10) 9 (vD 10), ai cI (aD 11) 6 (vD 11), ai cI (aD 12) 6 (vD 12), ai cI (aD 13) 6 (vD 13)]) (As := []) (rest := []) ⟨hx, hb, hml, hown, hts⟩ (c_X1_readsPlace l G cI cZ aR aD aT vR vD vt o13 ho13) (cwV 0 hts gX1_readsRoad_X1_readsPlace rfl rfl rfl hdV_X1_readsPlace ⟨Nat.le_of_ble_eq_true rfl, Nat.le_of_ble_eq_true rfl⟩) hEN hA hP hD hS [0, 1, 11] [2, 3, 4, 5, 6, 7, 8, 9, 10] rfl (by decide) rfl (by decide) (by decide) 0 rfl rfl rfl hl.1 rfl (Nat.le_of_ble_eq_true rfl) dX1_readsRoad_13 ⟨Nat.le_of_ble_eq_true rfl, Nat.le_of_ble_eq_true rfl⟩ (fun H locs hP hD hS => ?_)
    have hP : va_P G vwCl [ai cI (aD 5) 7 (vD 5), ai cI (aD 6) 7 (vD 6), ai cI (aD 7) 7 (vD 7), ai cI (aD 8) 9 (vD 8), ai cI (aD 9) 9 (vD 9), ai cI (aD 10) 9 (vD 10), ai cI (aD 11) 6 (vD 11), ai cI (aD 12) 6 (vD 12), ai cI (aD 13) 6 (vD 13), oX1 aR aT aD o13.2, oX4 aD vD, ai cI aT 200 vt] H := hP
    have hD : va_D A [ai cI (aD 5) 7 (vD 5), ai cI (aD 6) 7 (vD 6), ai cI (aD 7) 7 (vD 7), ai cI (aD 8) 9 (vD 8), ai cI (aD 9) 9 (vD 9), ai cI (aD 10) 9 (vD 10), ai cI (aD 11) 6 (vD 11), ai cI (aD 12) 6 (vD 12), ai cI (aD 13) 6 (vD 13), oX1 aR aT aD o13.2, oX4 aD vD, ai cI aT 200 vt] := hD
    refine lv_if_ne (tgt := 21) hx hb dX1_readsRoad_16 (by decide) (fun c16 => ?_) (fun c16 => ?_)
    · have h := (if_neg c16).symm.trans h
      refine lv_aload_n hx hb dX1_readsRoad_21 rfl (lv_at hl 0 rfl) ?_
      refine va_get (D := G) (ci := 1) (v := .int (o13.2 0 6)) (C := RX1) (T := TX1) (N := 8) hx hb hts fi_X1_readsRoad_X1 hown hEN.1 hP 9 rfl rfl 6 (by decide) (hts (.fieldLink RX1 57 "HourWell$Reader" "value" "I") (List.mem_of_getElem? (i := 3) rfl)) (fun _ h9 => h9) rfl dX1_readsRoad_22 ?_
      refine lv_istore_n (lv' := [(1, .int (o13.2 0 6)), (0, .ref (aR 0))]) hx hb dX1_readsRoad_25 rfl hl (by decide) rfl (fun ls hl => ?_)
      refine lv_aload_n hx hb dX1_readsRoad_26 rfl (lv_at hl 1 rfl) ?_
      obtain ⟨o27, ho27, h⟩ := bnd_some h
      refine call_VJ (wr := [ai cI (aD 5) 7 (vD 5), ai cI (aD 6) 7 (vD 6), ai cI (aD 7) 7 (vD 7), ai cI (aD 8) 9 (vD 8), ai cI (aD 9) 9 (vD 9), ai cI (aD 10) 9 (vD 10), ai cI (aD 11) 6 (vD 11), ai cI (aD 12) 6 (vD 12), ai cI (aD 13) 6 (vD 13)]) (As := []) (rest := []) ⟨hx, hb, hml, hown, hts⟩ (c_X1_readsPlace l G cI cZ aR aD aT o13.2 vD vt o27 ho27) (cwV 0 hts gX1_readsRoad_X1_readsPlace rfl rfl rfl hdV_X1_readsPlace ⟨Nat.le_of_ble_eq_true rfl, Nat.le_of_ble_eq_true rfl⟩) hEN hA hP hD hS [9, 10, 11] [0, 1, 2, 3, 4, 5, 6, 7, 8] rfl (by decide) rfl (by decide) (by decide) 9 rfl rfl rfl hl.1 rfl (Nat.le_of_ble_eq_true rfl) dX1_readsRoad_27 ⟨Nat.le_of_ble_eq_true rfl, Nat.le_of_ble_eq_true rfl⟩ (fun H locs hP hD hS => ?_)
      have hP : va_P G vwCl [ai cI (aD 5) 7 (vD 5), ai cI (aD 6) 7 (vD 6), ai cI (aD 7) 7 (vD 7), ai cI (aD 8) 9 (vD 8), ai cI (aD 9) 9 (vD 9), ai cI (aD 10) 9 (vD 10), ai cI (aD 11) 6 (vD 11), ai cI (aD 12) 6 (vD 12), ai cI (aD 13) 6 (vD 13), oX1 aR aT aD o27.2, oX4 aD vD, ai cI aT 200 vt] H := hP
      have hD : va_D A [ai cI (aD 5) 7 (vD 5), ai cI (aD 6) 7 (vD 6), ai cI (aD 7) 7 (vD 7), ai cI (aD 8) 9 (vD 8), ai cI (aD 9) 9 (vD 9), ai cI (aD 10) 9 (vD 10), ai cI (aD 11) 6 (vD 11), ai cI (aD 12) 6 (vD 12), ai cI (aD 13) 6 (vD 13), oX1 aR aT aD o27.2, oX4 aD vD, ai cI aT 200 vt] := hD
      refine lv_if_eq (tgt := 41) hx hb dX1_readsRoad_30 (by decide) (fun c30 => ?_) (fun c30 => ?_)
      · have h := (if_pos c30).symm.trans h
        refine lv_iconst (v := (0 : Int32)) hx hb dX1_readsRoad_41 k_iconst_0 ?_
        have hres := Option.some.inj h
        subst hres
        exact hRet 42 nz0 _ _ _ (hP.sub [9, 10, 0, 1, 2, 3, 4, 5, 6, 7, 8, 11] rfl) (hD.sub [9, 10, 0, 1, 2, 3, 4, 5, 6, 7, 8, 11] (by decide) rfl) hS dX1_readsRoad_42
      · have h := (if_neg c30).symm.trans h
        refine lv_aload_n hx hb dX1_readsRoad_33 rfl (lv_at hl 1 rfl) ?_
        refine va_get (D := G) (ci := 1) (v := .int (o27.2 0 6)) (C := RX1) (T := TX1) (N := 8) hx hb hts fi_X1_readsRoad_X1 hown hEN.1 hP 9 rfl rfl 6 (by decide) (hts (.fieldLink RX1 57 "HourWell$Reader" "value" "I") (List.mem_of_getElem? (i := 3) rfl)) (fun _ h9 => h9) rfl dX1_readsRoad_34 ?_
        refine lv_iload_n hx hb dX1_readsRoad_37 rfl (lv_at hl 0 rfl) ?_
        refine lv_icmp_ne (tgt := 43) hx hb dX1_readsRoad_38 (by decide) (fun c38 => ?_) (fun c38 => ?_)
        · have h := (if_neg c38).symm.trans h
          refine lv_aload_n hx hb dX1_readsRoad_43 rfl (lv_at hl 1 rfl) ?_
          refine va_get (D := G) (ci := 1) (v := .int (o27.2 0 6)) (C := RX1) (T := TX1) (N := 8) hx hb hts fi_X1_readsRoad_X1 hown hEN.1 hP 9 rfl rfl 6 (by decide) (hts (.fieldLink RX1 57 "HourWell$Reader" "value" "I") (List.mem_of_getElem? (i := 3) rfl)) (fun _ h9 => h9) rfl dX1_readsRoad_44 ?_
          refine lv_istore_n (lv' := [(2, .int (o27.2 0 6)), (1, .int (o13.2 0 6)), (0, .ref (aR 0))]) hx hb dX1_readsRoad_47 rfl hl (by decide) rfl (fun ls hl => ?_)
          refine lv_aload_n hx hb dX1_readsRoad_48 rfl (lv_at hl 2 rfl) ?_
          refine lv_iconst (v := (1 : Int32)) hx hb dX1_readsRoad_49 k_iconst_1 ?_
          refine lv_bipush (v := (9 : Int32)) hx hb dX1_readsRoad_50 k_bipush_9 ?_
          obtain ⟨o52, ho52, h⟩ := bnd_some h
          refine call_VJ (wr := [ai cI (aD 5) 7 (vD 5), ai cI (aD 6) 7 (vD 6), ai cI (aD 7) 7 (vD 7), ai cI (aD 8) 9 (vD 8), ai cI (aD 9) 9 (vD 9), ai cI (aD 10) 9 (vD 10), ai cI (aD 11) 6 (vD 11), ai cI (aD 12) 6 (vD 12), ai cI (aD 13) 6 (vD 13), oX4 aD vD]) (As := [.int (1 : Int32), .int (9 : Int32)]) (rest := []) ⟨hx, hb, hml, hown, hts⟩ (c_X1_readsNumber l G cI cZ aR aD aT o27.2 vt (1 : Int32) (9 : Int32) o52 ho52) (cwV 2 hts gX1_readsRoad_X1_readsNumber rfl rfl rfl hdV_X1_readsNumber ⟨Nat.le_of_ble_eq_true rfl, Nat.le_of_ble_eq_true rfl⟩) hEN hA hP hD hS [9, 11] [0, 1, 2, 3, 4, 5, 6, 7, 8, 10] rfl (by decide) rfl (by decide) (by decide) 9 rfl rfl rfl hl.1 rfl (Nat.le_of_ble_eq_true rfl) dX1_readsRoad_52 ⟨Nat.le_of_ble_eq_true rfl, Nat.le_of_ble_eq_true rfl⟩ (fun H locs hP hD hS => ?_)
          have hP : va_P G vwCl [ai cI (aD 5) 7 (vD 5), ai cI (aD 6) 7 (vD 6), ai cI (aD 7) 7 (vD 7), ai cI (aD 8) 9 (vD 8), ai cI (aD 9) 9 (vD 9), ai cI (aD 10) 9 (vD 10), ai cI (aD 11) 6 (vD 11), ai cI (aD 12) 6 (vD 12), ai cI (aD 13) 6 (vD 13), oX4 aD vD, oX1 aR aT aD o52.2, ai cI aT 200 vt] H := hP
          have hD : va_D A [ai cI (aD 5) 7 (vD 5), ai cI (aD 6) 7 (vD 6), ai cI (aD 7) 7 (vD 7), ai cI (aD 8) 9 (vD 8), ai cI (aD 9) 9 (vD 9), ai cI (aD 10) 9 (vD 10), ai cI (aD 11) 6 (vD 11), ai cI (aD 12) 6 (vD 12), ai cI (aD 13) 6 (vD 13), oX4 aD vD, oX1 aR aT aD o52.2, ai cI aT 200 vt] := hD
          refine lv_if_eq (tgt := 78) hx hb dX1_readsRoad_55 (by decide) (fun c55 => ?_) (fun c55 => ?_)
          · have h := (if_pos c55).symm.trans h
            refine lv_iconst (v := (0 : Int32)) hx hb dX1_readsRoad_78 k_iconst_0 ?_
            have hres := Option.some.inj h
            subst hres
            exact hRet 79 nz0 _ _ _ (hP.sub [10, 9, 0, 1, 2, 3, 4, 5, 6, 7, 8, 11] rfl) (hD.sub [10, 9, 0, 1, 2, 3, 4, 5, 6, 7, 8, 11] (by decide) rfl) hS dX1_readsRoad_79
          · have h := (if_neg c55).symm.trans h
            refine lv_aload_n hx hb dX1_readsRoad_58 rfl (lv_at hl 2 rfl) ?_
            refine va_get (D := G) (ci := 1) (v := .ref (aD 0)) (C := RX1) (T := TX1) (N := 8) hx hb hts fi_X1_readsRoad_X1 hown hEN.1 hP 10 rfl rfl 1 (by decide) (hts (.fieldLink RX1 15 "HourWell$Reader" "world" "LHourWell$World;") (List.mem_of_getElem? (i := 1) rfl)) (fun _ h9 => h9) rfl dX1_readsRoad_59 ?_
            refine lv_iload_n hx hb dX1_readsRoad_62 rfl (lv_at hl 1 rfl) ?_
            refine lv_iload_n hx hb dX1_readsRoad_63 rfl (lv_at hl 0 rfl) ?_
            refine lv_aload_n hx hb dX1_readsRoad_64 rfl (lv_at hl 2 rfl) ?_
            refine va_get (D := G) (ci := 1) (v := .int (o52.2 0 6)) (C := RX1) (T := TX1) (N := 8) hx hb hts fi_X1_readsRoad_X1 hown hEN.1 hP 10 rfl rfl 6 (by decide) (hts (.fieldLink RX1 57 "HourWell$Reader" "value" "I") (List.mem_of_getElem? (i := 3) rfl)) (fun _ h9 => h9) rfl dX1_readsRoad_65 ?_
            obtain ⟨o68, ho68, h⟩ := bnd_some h
            refine call_VJ (wr := [oX1 aR aT aD o52.2, ai cI aT 200 vt]) (As := [.int (o13.2 0 6), .int (o27.2 0 6), .int (o52.2 0 6)]) (rest := []) ⟨hx, hb, hml, hown, hts⟩ (c_X4_addRoad l G cI cZ aD vD (o13.2 0 6) (o27.2 0 6) (o52.2 0 6) o68 ho68) (cwV 3 hts gX1_readsRoad_X4_addRoad rfl rfl rfl hdV_X4_addRoad ⟨Nat.le_of_ble_eq_true rfl, Nat.le_of_ble_eq_true rfl⟩) hEN hA hP hD hS [9, 0, 1, 2, 3, 4, 5, 6, 7, 8] [10, 11] rfl (by decide) rfl (by decide) (by decide) 9 rfl rfl rfl hl.1 rfl (Nat.le_of_ble_eq_true rfl) dX1_readsRoad_68 ⟨Nat.le_of_ble_eq_true rfl, Nat.le_of_ble_eq_true rfl⟩ (fun H locs hP hD hS => ?_)
            have hP : va_P G vwCl [oX1 aR aT aD o52.2, ai cI aT 200 vt, oX4 aD o68.2, ai cI (aD 5) 7 (o68.2 5), ai cI (aD 6) 7 (o68.2 6), ai cI (aD 7) 7 (o68.2 7), ai cI (aD 8) 9 (o68.2 8), ai cI (aD 9) 9 (o68.2 9), ai cI (aD 10) 9 (o68.2 10), ai cI (aD 11) 6 (o68.2 11), ai cI (aD 12) 6 (o68.2 12), ai cI (aD 13) 6 (o68.2 13)] H := hP
            have hD : va_D A [oX1 aR aT aD o52.2, ai cI aT 200 vt, oX4 aD o68.2, ai cI (aD 5) 7 (o68.2 5), ai cI (aD 6) 7 (o68.2 6), ai cI (aD 7) 7 (o68.2 7), ai cI (aD 8) 9 (o68.2 8), ai cI (aD 9) 9 (o68.2 9), ai cI (aD 10) 9 (o68.2 10), ai cI (aD 11) 6 (o68.2 11), ai cI (aD 12) 6 (o68.2 12), ai cI (aD 13) 6 (o68.2 13)] := hD
            refine lv_if_eq (tgt := 78) hx hb dX1_readsRoad_71 (by decide) (fun c71 => ?_) (fun c71 => ?_)
            · have h := (if_pos c71).symm.trans h
              refine lv_iconst (v := (0 : Int32)) hx hb dX1_readsRoad_78 k_iconst_0 ?_
              have hres := Option.some.inj h
              subst hres
              exact hRet 79 nz0 _ _ _ (hP.sub [0, 2, 3, 4, 5, 6, 7, 8, 9, 10, 11, 1] rfl) (hD.sub [0, 2, 3, 4, 5, 6, 7, 8, 9, 10, 11, 1] (by decide) rfl) hS dX1_readsRoad_79
            · have h := (if_neg c71).symm.trans h
              refine lv_iconst (v := (1 : Int32)) hx hb dX1_readsRoad_74 k_iconst_1 ?_
              refine lv_goto (tgt := 79) hx hb dX1_readsRoad_75 (by decide) ?_
              have hres := Option.some.inj h
              subst hres
              exact hRet 79 nz1 _ _ _ (hP.sub [0, 2, 3, 4, 5, 6, 7, 8, 9, 10, 11, 1] rfl) (hD.sub [0, 2, 3, 4, 5, 6, 7, 8, 9, 10, 11, 1] (by decide) rfl) hS dX1_readsRoad_79
        · have h := (if_pos c38).symm.trans h
          refine lv_iconst (v := (0 : Int32)) hx hb dX1_readsRoad_41 k_iconst_0 ?_
          have hres := Option.some.inj h
          subst hres
          exact hRet 42 nz0 _ _ _ (hP.sub [9, 10, 0, 1, 2, 3, 4, 5, 6, 7, 8, 11] rfl) (hD.sub [9, 10, 0, 1, 2, 3, 4, 5, 6, 7, 8, 11] (by decide) rfl) hS dX1_readsRoad_42
    · have h := (if_pos c16).symm.trans h
      refine lv_iconst (v := (0 : Int32)) hx hb dX1_readsRoad_19 k_iconst_0 ?_
      have hres := Option.some.inj h
      subst hres
      exact hRet 20 nz0 _ _ _ (hP.sub [9, 10, 0, 1, 2, 3, 4, 5, 6, 7, 8, 11] rfl) (hD.sub [9, 10, 0, 1, 2, 3, 4, 5, 6, 7, 8, 11] (by decide) rfl) hS dX1_readsRoad_20
abbrev rm_X1_readsOff : Room := { frames := 3, cells := 0, slots := 0, locals := 64 }
theorem fi_X1_readsOff_X1 : ∀ w ∈ wsX10, w ∈ wsX1_readsOff := fun _ h => List.mem_cons_of_mem _ (List.mem_append_left _ (List.mem_append_right _ h))
theorem fi_X1_readsOff_X4 : ∀ w ∈ wsX40, w ∈ wsX1_readsOff := fun _ h => List.mem_cons_of_mem _ (List.mem_append_right _ h)
theorem hdV_X1_readsOff : yX1_readsOff.cls = RX1 ∧ yX1_readsOff.cls ≠ "java/lang/invoke/MethodHandle" ∧ yX1_readsOff.cls ≠ "java/lang/invoke/VarHandle" ∧ (parseMethodDescriptor yX1_readsOff.desc).map (fun d => d.parameters.length) = some 0 := by decide +kernel
set_option maxRecDepth 100000 in
set_option maxHeartbeats 4000000 in
theorem c_X1_readsOff (l : Launch) (G : va_G) (cI cZ : ClassId) (aR : Nat → Nat) (aD : Nat → Nat) (aT : Nat) (vR : Ob) (vD : Ob) (vt : (Nat → Int32))  (res : Int32 × Ob × Ob) (h : m_X1_readsOff vR vD vt  = some res) : Ct l yX1_readsOff wsX1_readsOff rm_X1_readsOff G cI cZ [.ref (aR 0)] [oX1 aR aT aD vR, oX4 aD vD, ai cI (aD 5) 7 (vD 5), ai cI (aD 6) 7 (vD 6), ai cI (aD 7) 7 (vD 7), ai cI (aD 8) 9 (vD 8), ai cI (aD 9) 9 (vD 9), ai cI (aD 10) 9 (vD 10), ai cI (aD 11) 6 (vD 11), ai cI (aD 12) 6 (vD 12), ai cI (aD 13) 6 (vD 13), ai cI aT 200 vt] (some (.int res.1)) [oX1 aR aT aD res.2.1, oX4 aD res.2.2, ai cI (aD 5) 7 (res.2.2 5), ai cI (aD 6) 7 (res.2.2 6), ai cI (aD 7) 7 (res.2.2 7), ai cI (aD 8) 9 (res.2.2 8), ai cI (aD 9) 9 (res.2.2 9), ai cI (aD 10) 9 (res.2.2 10), ai cI (aD 11) 6 (res.2.2 11), ai cI (aD 12) 6 (res.2.2 12), ai cI (aD 13) 6 (res.2.2 13), ai cI aT 200 vt] := by
  refine Ct.of_z (maxL := 1) (by decide) rfl (Nat.le_of_ble_eq_true rfl) ?_
  intro p e s m below meth c args hx hb hml hown hts A hA hEN hP hD hS Q hRet ls hl
  have hown : s.vm.findClass RX1 = some m.cls := hown
  have hl : lv_has ls 1 [(0, .ref (aR 0))] := hl
  unfold m_X1_readsOff at h
  refine lv_aload_n hx hb dX1_readsOff_0 rfl (lv_at hl 0 rfl) ?_
  refine va_get (D := G) (ci := 1) (v := .int (vR 0 7)) (C := RX1) (T := TX1) (N := 8) hx hb hts fi_X1_readsOff_X1 hown hEN.1 hP 0 rfl rfl 7 (by decide) (hts (.fieldLink RX1 37 "HourWell$Reader" "isOffTold" "Z") (List.mem_of_getElem? (i := 1) rfl)) (fun _ h9 => h9) rfl dX1_readsOff_1 ?_
  refine lv_if_ne (tgt := 17) hx hb dX1_readsOff_4 (by decide) (fun c4 => ?_) (fun c4 => ?_)
  · have h := (if_neg c4).symm.trans h
    refine lv_iconst (v := (0 : Int32)) hx hb dX1_readsOff_17 k_iconst_0 ?_
    have hres := Option.some.inj h
    subst hres
    exact hRet 18 nz0 _ _ _ hP hD hS dX1_readsOff_18
  · have h := (if_pos c4).symm.trans h
    refine lv_aload_n hx hb dX1_readsOff_7 rfl (lv_at hl 0 rfl) ?_
    refine lv_iconst (v := (0 : Int32)) hx hb dX1_readsOff_8 k_iconst_0 ?_
    refine lv_bipush (v := (6 : Int32)) hx hb dX1_readsOff_9 k_bipush_6 ?_
    obtain ⟨o11, ho11, h⟩ := bnd_some h
    refine call_VJ (wr := [oX4 aD vD, ai cI (aD 5) 7 (vD 5), ai cI (aD 6) 7 (vD 6), ai cI (aD 7) 7 (vD 7), ai cI (aD 8) 9 (vD 8), ai cI (aD 9) 9 (vD 9), ai cI (aD 10) 9 (vD 10), ai cI (aD 11) 6 (vD 11), ai cI (aD 12) 6 (vD 12), ai cI (aD 13) 6 (vD 13)]) (As := [.int (0 : Int32), .int (6 : Int32)]) (rest := []) ⟨hx, hb, hml, hown, hts⟩ (c_X1_readsNumber l G cI cZ aR aD aT vR vt (0 : Int32) (6 : Int32) o11 ho11) (cwV 2 hts gX1_readsOff_X1_readsNumber rfl rfl rfl hdV_X1_readsNumber ⟨Nat.le_of_ble_eq_true rfl, Nat.le_of_ble_eq_true rfl⟩) hEN hA hP hD hS [0, 11] [1, 2, 3, 4, 5, 6, 7, 8, 9, 10] rfl (by decide) rfl (by decide) (by decide) 0 rfl rfl rfl hl.1 rfl (Nat.le_of_ble_eq_true rfl) dX1_readsOff_11 ⟨Nat.le_of_ble_eq_true rfl, Nat.le_of_ble_eq_true rfl⟩ (fun H locs hP hD hS => ?_)
    have hP : va_P G vwCl [oX4 aD vD, ai cI (aD 5) 7 (vD 5), ai cI (aD 6) 7 (vD 6), ai cI (aD 7) 7 (vD 7), ai cI (aD 8) 9 (vD 8), ai cI (aD 9) 9 (vD 9), ai cI (aD 10) 9 (vD 10), ai cI (aD 11) 6 (vD 11), ai cI (aD 12) 6 (vD 12), ai cI (aD 13) 6 (vD 13), oX1 aR aT aD o11.2, ai cI aT 200 vt] H := hP
    have hD : va_D A [oX4 aD vD, ai cI (aD 5) 7 (vD 5), ai cI (aD 6) 7 (vD 6), ai cI (aD 7) 7 (vD 7), ai cI (aD 8) 9 (vD 8), ai cI (aD 9) 9 (vD 9), ai cI (aD 10) 9 (vD 10), ai cI (aD 11) 6 (vD 11), ai cI (aD 12) 6 (vD 12), ai cI (aD 13) 6 (vD 13), oX1 aR aT aD o11.2, ai cI aT 200 vt] := hD
    refine lv_if_ne (tgt := 19) hx hb dX1_readsOff_14 (by decide) (fun c14 => ?_) (fun c14 => ?_)
    · have h := (if_neg c14).symm.trans h
      refine lv_aload_n hx hb dX1_readsOff_19 rfl (lv_at hl 0 rfl) ?_
      refine va_get (D := G) (ci := 1) (v := .ref (aD 0)) (C := RX1) (T := TX1) (N := 8) hx hb hts fi_X1_readsOff_X1 hown hEN.1 hP 10 rfl rfl 1 (by decide) (hts (.fieldLink RX1 15 "HourWell$Reader" "world" "LHourWell$World;") (List.mem_of_getElem? (i := 2) rfl)) (fun _ h9 => h9) rfl dX1_readsOff_20 ?_
      refine lv_aload_n hx hb dX1_readsOff_23 rfl (lv_at hl 0 rfl) ?_
      refine va_get (D := G) (ci := 1) (v := .int (o11.2 0 6)) (C := RX1) (T := TX1) (N := 8) hx hb hts fi_X1_readsOff_X1 hown hEN.1 hP 10 rfl rfl 6 (by decide) (hts (.fieldLink RX1 57 "HourWell$Reader" "value" "I") (List.mem_of_getElem? (i := 3) rfl)) (fun _ h9 => h9) rfl dX1_readsOff_24 ?_
      refine va_put (D := G) (ci := 4) (v := .int (o11.2 0 6)) (ty := .int) (C := RX4) (T := TX4) (N := 13) hx hb hts fi_X1_readsOff_X4 tyX4 tyX4_ok nmX4 hown hEN.1 hP hD hS 0 rfl rfl 3 (by decide) (hts (.fieldLink RX1 115 "HourWell$World" "off" "I") (List.mem_of_getElem? (i := 4) rfl)) (fun _ h9 => h9) rfl (by decide +kernel) rfl rfl (Nat.le_of_ble_eq_true rfl) dX1_readsOff_27 (fun H locs hP hD hS => ?_)
      have hP : va_P G vwCl [oX4 aD (st vD 0 3 (o11.2 0 6)), ai cI (aD 5) 7 (vD 5), ai cI (aD 6) 7 (vD 6), ai cI (aD 7) 7 (vD 7), ai cI (aD 8) 9 (vD 8), ai cI (aD 9) 9 (vD 9), ai cI (aD 10) 9 (vD 10), ai cI (aD 11) 6 (vD 11), ai cI (aD 12) 6 (vD 12), ai cI (aD 13) 6 (vD 13), oX1 aR aT aD o11.2, ai cI aT 200 vt] H := hP
      have hD : va_D A [oX4 aD (st vD 0 3 (o11.2 0 6)), ai cI (aD 5) 7 (vD 5), ai cI (aD 6) 7 (vD 6), ai cI (aD 7) 7 (vD 7), ai cI (aD 8) 9 (vD 8), ai cI (aD 9) 9 (vD 9), ai cI (aD 10) 9 (vD 10), ai cI (aD 11) 6 (vD 11), ai cI (aD 12) 6 (vD 12), ai cI (aD 13) 6 (vD 13), oX1 aR aT aD o11.2, ai cI aT 200 vt] := hD
      refine lv_aload_n hx hb dX1_readsOff_30 rfl (lv_at hl 0 rfl) ?_
      refine lv_iconst (v := (1 : Int32)) hx hb dX1_readsOff_31 k_iconst_1 ?_
      refine va_put (D := G) (ci := 1) (v := .int (1 : Int32)) (ty := .boolean) (C := RX1) (T := TX1) (N := 8) hx hb hts fi_X1_readsOff_X1 tyX1 tyX1_ok nmX1 hown hEN.1 hP hD hS 10 rfl rfl 7 (by decide) (hts (.fieldLink RX1 37 "HourWell$Reader" "isOffTold" "Z") (List.mem_of_getElem? (i := 1) rfl)) (fun _ h9 => h9) rfl (by decide +kernel) rfl rfl (Nat.le_of_ble_eq_true rfl) dX1_readsOff_32 (fun H locs hP hD hS => ?_)
      have hP : va_P G vwCl [oX4 aD (st vD 0 3 (o11.2 0 6)), ai cI (aD 5) 7 (vD 5), ai cI (aD 6) 7 (vD 6), ai cI (aD 7) 7 (vD 7), ai cI (aD 8) 9 (vD 8), ai cI (aD 9) 9 (vD 9), ai cI (aD 10) 9 (vD 10), ai cI (aD 11) 6 (vD 11), ai cI (aD 12) 6 (vD 12), ai cI (aD 13) 6 (vD 13), oX1 aR aT aD (st o11.2 0 7 (1 : Int32)), ai cI aT 200 vt] H := hP
      have hD : va_D A [oX4 aD (st vD 0 3 (o11.2 0 6)), ai cI (aD 5) 7 (vD 5), ai cI (aD 6) 7 (vD 6), ai cI (aD 7) 7 (vD 7), ai cI (aD 8) 9 (vD 8), ai cI (aD 9) 9 (vD 9), ai cI (aD 10) 9 (vD 10), ai cI (aD 11) 6 (vD 11), ai cI (aD 12) 6 (vD 12), ai cI (aD 13) 6 (vD 13), oX1 aR aT aD (st o11.2 0 7 (1 : Int32)), ai cI aT 200 vt] := hD
      refine lv_iconst (v := (1 : Int32)) hx hb dX1_readsOff_35 k_iconst_1 ?_
      have hres := Option.some.inj h
      subst hres
      exact hRet 36 nz1 _ _ _ (hP.sub [10, 0, 1, 2, 3, 4, 5, 6, 7, 8, 9, 11] rfl) (hD.sub [10, 0, 1, 2, 3, 4, 5, 6, 7, 8, 9, 11] (by decide) rfl) hS dX1_readsOff_36
    · have h := (if_pos c14).symm.trans h
      refine lv_iconst (v := (0 : Int32)) hx hb dX1_readsOff_17 k_iconst_0 ?_
      have hres := Option.some.inj h
      subst hres
      exact hRet 18 nz0 _ _ _ (hP.sub [10, 0, 1, 2, 3, 4, 5, 6, 7, 8, 9, 11] rfl) (hD.sub [10, 0, 1, 2, 3, 4, 5, 6, 7, 8, 9, 11] (by decide) rfl) hS dX1_readsOff_18
abbrev rm_X1_readsLion : Room := { frames := 3, cells := 0, slots := 0, locals := 64 }
theorem fi_X1_readsLion_X1 : ∀ w ∈ wsX10, w ∈ wsX1_readsLion := fun _ h => List.mem_cons_of_mem _ (List.mem_append_left _ (List.mem_append_right _ h))
theorem fi_X1_readsLion_X4 : ∀ w ∈ wsX40, w ∈ wsX1_readsLion := fun _ h => List.mem_cons_of_mem _ (List.mem_append_right _ h)
theorem hdV_X1_readsLion : yX1_readsLion.cls = RX1 ∧ yX1_readsLion.cls ≠ "java/lang/invoke/MethodHandle" ∧ yX1_readsLion.cls ≠ "java/lang/invoke/VarHandle" ∧ (parseMethodDescriptor yX1_readsLion.desc).map (fun d => d.parameters.length) = some 0 := by decide +kernel
set_option maxRecDepth 100000 in
set_option maxHeartbeats 4000000 in
theorem c_X1_readsLion (l : Launch) (G : va_G) (cI cZ : ClassId) (aR : Nat → Nat) (aD : Nat → Nat) (aT : Nat) (vR : Ob) (vD : Ob) (vt : (Nat → Int32))  (res : Int32 × Ob × Ob) (h : m_X1_readsLion vR vD vt  = some res) : Ct l yX1_readsLion wsX1_readsLion rm_X1_readsLion G cI cZ [.ref (aR 0)] [oX1 aR aT aD vR, oX4 aD vD, ai cI (aD 5) 7 (vD 5), ai cI (aD 6) 7 (vD 6), ai cI (aD 7) 7 (vD 7), ai cI (aD 8) 9 (vD 8), ai cI (aD 9) 9 (vD 9), ai cI (aD 10) 9 (vD 10), ai cI (aD 11) 6 (vD 11), ai cI (aD 12) 6 (vD 12), ai cI (aD 13) 6 (vD 13), ai cI aT 200 vt] (some (.int res.1)) [oX1 aR aT aD res.2.1, oX4 aD res.2.2, ai cI (aD 5) 7 (res.2.2 5), ai cI (aD 6) 7 (res.2.2 6), ai cI (aD 7) 7 (res.2.2 7), ai cI (aD 8) 9 (res.2.2 8), ai cI (aD 9) 9 (res.2.2 9), ai cI (aD 10) 9 (res.2.2 10), ai cI (aD 11) 6 (res.2.2 11), ai cI (aD 12) 6 (res.2.2 12), ai cI (aD 13) 6 (res.2.2 13), ai cI aT 200 vt] := by
  refine Ct.of_z (maxL := 2) (by decide) rfl (Nat.le_of_ble_eq_true rfl) ?_
  intro p e s m below meth c args hx hb hml hown hts A hA hEN hP hD hS Q hRet ls hl
  have hown : s.vm.findClass RX1 = some m.cls := hown
  have hl : lv_has ls 2 [(0, .ref (aR 0))] := hl
  unfold m_X1_readsLion at h
  refine lv_aload_n hx hb dX1_readsLion_0 rfl (lv_at hl 0 rfl) ?_
  obtain ⟨o1, ho1, h⟩ := bnd_some h
  refine call_VJ (wr := [ai cI (aD 5) 7 (vD 5), ai cI (aD 6) 7 (vD 6), ai cI (aD 7) 7 (vD 7), ai cI (aD 8) 9 (vD 8), ai cI (aD 9) 9 (vD 9), ai cI (aD 10) 9 (vD 10), ai cI (aD 11) 6 (vD 11), ai cI (aD 12) 6 (vD 12), ai cI (aD 13) 6 (vD 13)]) (As := []) (rest := []) ⟨hx, hb, hml, hown, hts⟩ (c_X1_readsPlace l G cI cZ aR aD aT vR vD vt o1 ho1) (cwV 0 hts gX1_readsLion_X1_readsPlace rfl rfl rfl hdV_X1_readsPlace ⟨Nat.le_of_ble_eq_true rfl, Nat.le_of_ble_eq_true rfl⟩) hEN hA hP hD hS [0, 1, 11] [2, 3, 4, 5, 6, 7, 8, 9, 10] rfl (by decide) rfl (by decide) (by decide) 0 rfl rfl rfl hl.1 rfl (Nat.le_of_ble_eq_true rfl) dX1_readsLion_1 ⟨Nat.le_of_ble_eq_true rfl, Nat.le_of_ble_eq_true rfl⟩ (fun H locs hP hD hS => ?_)
  have hP : va_P G vwCl [ai cI (aD 5) 7 (vD 5), ai cI (aD 6) 7 (vD 6), ai cI (aD 7) 7 (vD 7), ai cI (aD 8) 9 (vD 8), ai cI (aD 9) 9 (vD 9), ai cI (aD 10) 9 (vD 10), ai cI (aD 11) 6 (vD 11), ai cI (aD 12) 6 (vD 12), ai cI (aD 13) 6 (vD 13), oX1 aR aT aD o1.2, oX4 aD vD, ai cI aT 200 vt] H := hP
  have hD : va_D A [ai cI (aD 5) 7 (vD 5), ai cI (aD 6) 7 (vD 6), ai cI (aD 7) 7 (vD 7), ai cI (aD 8) 9 (vD 8), ai cI (aD 9) 9 (vD 9), ai cI (aD 10) 9 (vD 10), ai cI (aD 11) 6 (vD 11), ai cI (aD 12) 6 (vD 12), ai cI (aD 13) 6 (vD 13), oX1 aR aT aD o1.2, oX4 aD vD, ai cI aT 200 vt] := hD
  refine lv_if_eq (tgt := 30) hx hb dX1_readsLion_4 (by decide) (fun c4 => ?_) (fun c4 => ?_)
  · have h := (if_pos c4).symm.trans h
    refine lv_iconst (v := (0 : Int32)) hx hb dX1_readsLion_30 k_iconst_0 ?_
    have hres := Option.some.inj h
    subst hres
    exact hRet 31 nz0 _ _ _ (hP.sub [9, 10, 0, 1, 2, 3, 4, 5, 6, 7, 8, 11] rfl) (hD.sub [9, 10, 0, 1, 2, 3, 4, 5, 6, 7, 8, 11] (by decide) rfl) hS dX1_readsLion_31
  · have h := (if_neg c4).symm.trans h
    refine lv_aload_n hx hb dX1_readsLion_7 rfl (lv_at hl 0 rfl) ?_
    refine va_get (D := G) (ci := 1) (v := .int (o1.2 0 6)) (C := RX1) (T := TX1) (N := 8) hx hb hts fi_X1_readsLion_X1 hown hEN.1 hP 9 rfl rfl 6 (by decide) (hts (.fieldLink RX1 57 "HourWell$Reader" "value" "I") (List.mem_of_getElem? (i := 1) rfl)) (fun _ h9 => h9) rfl dX1_readsLion_8 ?_
    refine lv_if_eq (tgt := 30) hx hb dX1_readsLion_11 (by decide) (fun c11 => ?_) (fun c11 => ?_)
    · have h := (if_pos c11).symm.trans h
      refine lv_iconst (v := (0 : Int32)) hx hb dX1_readsLion_30 k_iconst_0 ?_
      have hres := Option.some.inj h
      subst hres
      exact hRet 31 nz0 _ _ _ (hP.sub [9, 10, 0, 1, 2, 3, 4, 5, 6, 7, 8, 11] rfl) (hD.sub [9, 10, 0, 1, 2, 3, 4, 5, 6, 7, 8, 11] (by decide) rfl) hS dX1_readsLion_31
    · have h := (if_neg c11).symm.trans h
      refine lv_aload_n hx hb dX1_readsLion_14 rfl (lv_at hl 0 rfl) ?_
      refine va_get (D := G) (ci := 1) (v := .ref (aD 0)) (C := RX1) (T := TX1) (N := 8) hx hb hts fi_X1_readsLion_X1 hown hEN.1 hP 9 rfl rfl 1 (by decide) (hts (.fieldLink RX1 15 "HourWell$Reader" "world" "LHourWell$World;") (List.mem_of_getElem? (i := 2) rfl)) (fun _ h9 => h9) rfl dX1_readsLion_15 ?_
      refine lv_aload_n hx hb dX1_readsLion_18 rfl (lv_at hl 0 rfl) ?_
      refine va_get (D := G) (ci := 1) (v := .int (o1.2 0 6)) (C := RX1) (T := TX1) (N := 8) hx hb hts fi_X1_readsLion_X1 hown hEN.1 hP 9 rfl rfl 6 (by decide) (hts (.fieldLink RX1 57 "HourWell$Reader" "value" "I") (List.mem_of_getElem? (i := 1) rfl)) (fun _ h9 => h9) rfl dX1_readsLion_19 ?_
      obtain ⟨o22, ho22, h⟩ := bnd_some h
      refine call_V0 (As := [.int (o1.2 0 6)]) (rest := []) ⟨hx, hb, hml, hown, hts⟩ (c_X4_lionAt l G cI cZ aD vD (o1.2 0 6) o22 ho22) (cwV 1 hts gX1_readsLion_X4_lionAt rfl rfl rfl hdV_X4_lionAt ⟨Nat.le_of_ble_eq_true rfl, Nat.le_of_ble_eq_true rfl⟩) hEN hA hP hD hS [10, 0] rfl (by decide) 10 rfl rfl rfl hl.1 rfl (Nat.le_of_ble_eq_true rfl) dX1_readsLion_22 ⟨Nat.le_of_ble_eq_true rfl, Nat.le_of_ble_eq_true rfl⟩ (fun H locs hP hS => ?_)
      refine lv_bipush (v := (9 : Int32)) hx hb dX1_readsLion_25 k_bipush_9 ?_
      refine lv_icmp_eq (tgt := 32) hx hb dX1_readsLion_27 (by decide) (fun c27 => ?_) (fun c27 => ?_)
      · have h := (if_pos c27).symm.trans h
        refine lv_aload_n hx hb dX1_readsLion_32 rfl (lv_at hl 0 rfl) ?_
        refine va_get (D := G) (ci := 1) (v := .int (o1.2 0 6)) (C := RX1) (T := TX1) (N := 8) hx hb hts fi_X1_readsLion_X1 hown hEN.1 hP 9 rfl rfl 6 (by decide) (hts (.fieldLink RX1 57 "HourWell$Reader" "value" "I") (List.mem_of_getElem? (i := 1) rfl)) (fun _ h9 => h9) rfl dX1_readsLion_33 ?_
        refine lv_istore_n (lv' := [(1, .int (o1.2 0 6)), (0, .ref (aR 0))]) hx hb dX1_readsLion_36 rfl hl (by decide) rfl (fun ls hl => ?_)
        refine lv_aload_n hx hb dX1_readsLion_37 rfl (lv_at hl 1 rfl) ?_
        refine lv_iconst (v := (0 : Int32)) hx hb dX1_readsLion_38 k_iconst_0 ?_
        refine lv_iconst (v := (4 : Int32)) hx hb dX1_readsLion_39 k_iconst_4 ?_
        obtain ⟨o40, ho40, h⟩ := bnd_some h
        refine call_VJ (wr := [ai cI (aD 5) 7 (vD 5), ai cI (aD 6) 7 (vD 6), ai cI (aD 7) 7 (vD 7), ai cI (aD 8) 9 (vD 8), ai cI (aD 9) 9 (vD 9), ai cI (aD 10) 9 (vD 10), ai cI (aD 11) 6 (vD 11), ai cI (aD 12) 6 (vD 12), ai cI (aD 13) 6 (vD 13), oX4 aD vD]) (As := [.int (0 : Int32), .int (4 : Int32)]) (rest := []) ⟨hx, hb, hml, hown, hts⟩ (c_X1_readsNumber l G cI cZ aR aD aT o1.2 vt (0 : Int32) (4 : Int32) o40 ho40) (cwV 2 hts gX1_readsLion_X1_readsNumber rfl rfl rfl hdV_X1_readsNumber ⟨Nat.le_of_ble_eq_true rfl, Nat.le_of_ble_eq_true rfl⟩) hEN hA hP hD hS [9, 11] [0, 1, 2, 3, 4, 5, 6, 7, 8, 10] rfl (by decide) rfl (by decide) (by decide) 9 rfl rfl rfl hl.1 rfl (Nat.le_of_ble_eq_true rfl) dX1_readsLion_40 ⟨Nat.le_of_ble_eq_true rfl, Nat.le_of_ble_eq_true rfl⟩ (fun H locs hP hD hS => ?_)
        have hP : va_P G vwCl [ai cI (aD 5) 7 (vD 5), ai cI (aD 6) 7 (vD 6), ai cI (aD 7) 7 (vD 7), ai cI (aD 8) 9 (vD 8), ai cI (aD 9) 9 (vD 9), ai cI (aD 10) 9 (vD 10), ai cI (aD 11) 6 (vD 11), ai cI (aD 12) 6 (vD 12), ai cI (aD 13) 6 (vD 13), oX4 aD vD, oX1 aR aT aD o40.2, ai cI aT 200 vt] H := hP
        have hD : va_D A [ai cI (aD 5) 7 (vD 5), ai cI (aD 6) 7 (vD 6), ai cI (aD 7) 7 (vD 7), ai cI (aD 8) 9 (vD 8), ai cI (aD 9) 9 (vD 9), ai cI (aD 10) 9 (vD 10), ai cI (aD 11) 6 (vD 11), ai cI (aD 12) 6 (vD 12), ai cI (aD 13) 6 (vD 13), oX4 aD vD, oX1 aR aT aD o40.2, ai cI aT 200 vt] := hD
        refine lv_if_eq (tgt := 65) hx hb dX1_readsLion_43 (by decide) (fun c43 => ?_) (fun c43 => ?_)
        · have h := (if_pos c43).symm.trans h
          refine lv_iconst (v := (0 : Int32)) hx hb dX1_readsLion_65 k_iconst_0 ?_
          have hres := Option.some.inj h
          subst hres
          exact hRet 66 nz0 _ _ _ (hP.sub [10, 9, 0, 1, 2, 3, 4, 5, 6, 7, 8, 11] rfl) (hD.sub [10, 9, 0, 1, 2, 3, 4, 5, 6, 7, 8, 11] (by decide) rfl) hS dX1_readsLion_66
        · have h := (if_neg c43).symm.trans h
          refine lv_aload_n hx hb dX1_readsLion_46 rfl (lv_at hl 1 rfl) ?_
          refine va_get (D := G) (ci := 1) (v := .ref (aD 0)) (C := RX1) (T := TX1) (N := 8) hx hb hts fi_X1_readsLion_X1 hown hEN.1 hP 10 rfl rfl 1 (by decide) (hts (.fieldLink RX1 15 "HourWell$Reader" "world" "LHourWell$World;") (List.mem_of_getElem? (i := 2) rfl)) (fun _ h9 => h9) rfl dX1_readsLion_47 ?_
          refine lv_iload_n hx hb dX1_readsLion_50 rfl (lv_at hl 0 rfl) ?_
          refine lv_aload_n hx hb dX1_readsLion_51 rfl (lv_at hl 1 rfl) ?_
          refine va_get (D := G) (ci := 1) (v := .int (o40.2 0 6)) (C := RX1) (T := TX1) (N := 8) hx hb hts fi_X1_readsLion_X1 hown hEN.1 hP 10 rfl rfl 6 (by decide) (hts (.fieldLink RX1 57 "HourWell$Reader" "value" "I") (List.mem_of_getElem? (i := 1) rfl)) (fun _ h9 => h9) rfl dX1_readsLion_52 ?_
          obtain ⟨o55, ho55, h⟩ := bnd_some h
          refine call_VJ (wr := [oX1 aR aT aD o40.2, ai cI aT 200 vt]) (As := [.int (o1.2 0 6), .int (o40.2 0 6)]) (rest := []) ⟨hx, hb, hml, hown, hts⟩ (c_X4_addLion l G cI cZ aD vD (o1.2 0 6) (o40.2 0 6) o55 ho55) (cwV 2 hts gX1_readsLion_X4_addLion rfl rfl rfl hdV_X4_addLion ⟨Nat.le_of_ble_eq_true rfl, Nat.le_of_ble_eq_true rfl⟩) hEN hA hP hD hS [9, 0, 1, 2, 3, 4, 5, 6, 7, 8] [10, 11] rfl (by decide) rfl (by decide) (by decide) 9 rfl rfl rfl hl.1 rfl (Nat.le_of_ble_eq_true rfl) dX1_readsLion_55 ⟨Nat.le_of_ble_eq_true rfl, Nat.le_of_ble_eq_true rfl⟩ (fun H locs hP hD hS => ?_)
          have hP : va_P G vwCl [oX1 aR aT aD o40.2, ai cI aT 200 vt, oX4 aD o55.2, ai cI (aD 5) 7 (o55.2 5), ai cI (aD 6) 7 (o55.2 6), ai cI (aD 7) 7 (o55.2 7), ai cI (aD 8) 9 (o55.2 8), ai cI (aD 9) 9 (o55.2 9), ai cI (aD 10) 9 (o55.2 10), ai cI (aD 11) 6 (o55.2 11), ai cI (aD 12) 6 (o55.2 12), ai cI (aD 13) 6 (o55.2 13)] H := hP
          have hD : va_D A [oX1 aR aT aD o40.2, ai cI aT 200 vt, oX4 aD o55.2, ai cI (aD 5) 7 (o55.2 5), ai cI (aD 6) 7 (o55.2 6), ai cI (aD 7) 7 (o55.2 7), ai cI (aD 8) 9 (o55.2 8), ai cI (aD 9) 9 (o55.2 9), ai cI (aD 10) 9 (o55.2 10), ai cI (aD 11) 6 (o55.2 11), ai cI (aD 12) 6 (o55.2 12), ai cI (aD 13) 6 (o55.2 13)] := hD
          refine lv_if_eq (tgt := 65) hx hb dX1_readsLion_58 (by decide) (fun c58 => ?_) (fun c58 => ?_)
          · have h := (if_pos c58).symm.trans h
            refine lv_iconst (v := (0 : Int32)) hx hb dX1_readsLion_65 k_iconst_0 ?_
            have hres := Option.some.inj h
            subst hres
            exact hRet 66 nz0 _ _ _ (hP.sub [0, 2, 3, 4, 5, 6, 7, 8, 9, 10, 11, 1] rfl) (hD.sub [0, 2, 3, 4, 5, 6, 7, 8, 9, 10, 11, 1] (by decide) rfl) hS dX1_readsLion_66
          · have h := (if_neg c58).symm.trans h
            refine lv_iconst (v := (1 : Int32)) hx hb dX1_readsLion_61 k_iconst_1 ?_
            refine lv_goto (tgt := 66) hx hb dX1_readsLion_62 (by decide) ?_
            have hres := Option.some.inj h
            subst hres
            exact hRet 66 nz1 _ _ _ (hP.sub [0, 2, 3, 4, 5, 6, 7, 8, 9, 10, 11, 1] rfl) (hD.sub [0, 2, 3, 4, 5, 6, 7, 8, 9, 10, 11, 1] (by decide) rfl) hS dX1_readsLion_66
      · have h := (if_neg c27).symm.trans h
        refine lv_iconst (v := (0 : Int32)) hx hb dX1_readsLion_30 k_iconst_0 ?_
        have hres := Option.some.inj h
        subst hres
        exact hRet 31 nz0 _ _ _ (hP.sub [9, 10, 0, 1, 2, 3, 4, 5, 6, 7, 8, 11] rfl) (hD.sub [9, 10, 0, 1, 2, 3, 4, 5, 6, 7, 8, 11] (by decide) rfl) hS dX1_readsLion_31
abbrev rm_X1_readsHost : Room := { frames := 3, cells := 0, slots := 0, locals := 64 }
theorem fi_X1_readsHost_X1 : ∀ w ∈ wsX10, w ∈ wsX1_readsHost := fun _ h => List.mem_cons_of_mem _ (List.mem_append_left _ (List.mem_append_right _ h))
theorem fi_X1_readsHost_X4 : ∀ w ∈ wsX40, w ∈ wsX1_readsHost := fun _ h => List.mem_cons_of_mem _ (List.mem_append_right _ h)
theorem hdV_X1_readsHost : yX1_readsHost.cls = RX1 ∧ yX1_readsHost.cls ≠ "java/lang/invoke/MethodHandle" ∧ yX1_readsHost.cls ≠ "java/lang/invoke/VarHandle" ∧ (parseMethodDescriptor yX1_readsHost.desc).map (fun d => d.parameters.length) = some 0 := by decide +kernel
set_option maxRecDepth 100000 in
set_option maxHeartbeats 4000000 in
theorem c_X1_readsHost (l : Launch) (G : va_G) (cI cZ : ClassId) (aR : Nat → Nat) (aD : Nat → Nat) (aT : Nat) (vR : Ob) (vD : Ob) (vt : (Nat → Int32))  (res : Int32 × Ob × Ob) (h : m_X1_readsHost vR vD vt  = some res) : Ct l yX1_readsHost wsX1_readsHost rm_X1_readsHost G cI cZ [.ref (aR 0)] [oX1 aR aT aD vR, oX4 aD vD, ai cI (aD 5) 7 (vD 5), ai cI (aD 6) 7 (vD 6), ai cI (aD 7) 7 (vD 7), ai cI (aD 8) 9 (vD 8), ai cI (aD 9) 9 (vD 9), ai cI (aD 10) 9 (vD 10), ai cI (aD 11) 6 (vD 11), ai cI (aD 12) 6 (vD 12), ai cI (aD 13) 6 (vD 13), ai cI aT 200 vt] (some (.int res.1)) [oX1 aR aT aD res.2.1, oX4 aD res.2.2, ai cI (aD 5) 7 (res.2.2 5), ai cI (aD 6) 7 (res.2.2 6), ai cI (aD 7) 7 (res.2.2 7), ai cI (aD 8) 9 (res.2.2 8), ai cI (aD 9) 9 (res.2.2 9), ai cI (aD 10) 9 (res.2.2 10), ai cI (aD 11) 6 (res.2.2 11), ai cI (aD 12) 6 (res.2.2 12), ai cI (aD 13) 6 (res.2.2 13), ai cI aT 200 vt] := by
  refine Ct.of_z (maxL := 3) (by decide) rfl (Nat.le_of_ble_eq_true rfl) ?_
  intro p e s m below meth c args hx hb hml hown hts A hA hEN hP hD hS Q hRet ls hl
  have hown : s.vm.findClass RX1 = some m.cls := hown
  have hl : lv_has ls 3 [(0, .ref (aR 0))] := hl
  have j73 : ∀ (vR : Ob) (vD : Ob) (x1 : Int32) (x2 : Int32), m_X1_readsHost_j73 vt vR vD x1 x2 = some res → ∀ (H : Heap) (locs : List Loc) (ls : Array Slot), va_P G vwCl [oX1 aR aT aD vR, oX4 aD vD, ai cI (aD 5) 7 (vD 5), ai cI (aD 6) 7 (vD 6), ai cI (aD 7) 7 (vD 7), ai cI (aD 8) 9 (vD 8), ai cI (aD 9) 9 (vD 9), ai cI (aD 10) 9 (vD 10), ai cI (aD 11) 6 (vD 11), ai cI (aD 12) 6 (vD 12), ai cI (aD 13) 6 (vD 13), ai cI aT 200 vt] H → va_D A [oX1 aR aT aD vR, oX4 aD vD, ai cI (aD 5) 7 (vD 5), ai cI (aD 6) 7 (vD 6), ai cI (aD 7) 7 (vD 7), ai cI (aD 8) 9 (vD 8), ai cI (aD 9) 9 (vD 9), ai cI (aD 10) 9 (vD 10), ai cI (aD 11) 6 (vD 11), ai cI (aD 12) 6 (vD 12), ai cI (aD 13) 6 (vD 13), ai cI aT 200 vt] → va_S A s.heap H locs → lv_has ls 3 [(0, .ref (aR 0)), (1, .int x1), (2, .int x2)] → W p l e rm_X1_readsHost s m args below meth c H locs 0 0 Q (F0 m 73 ls []) := by
    intro vR vD x1 x2 h H locs ls hP hD hS hl
    unfold m_X1_readsHost_j73 at h
    refine lv_aload_n hx hb dX1_readsHost_73 rfl (lv_at hl 0 rfl) ?_
    refine va_get (D := G) (ci := 1) (v := .ref (aD 0)) (C := RX1) (T := TX1) (N := 8) hx hb hts fi_X1_readsHost_X1 hown hEN.1 hP 0 rfl rfl 1 (by decide) (hts (.fieldLink RX1 15 "HourWell$Reader" "world" "LHourWell$World;") (List.mem_of_getElem? (i := 1) rfl)) (fun _ h9 => h9) rfl dX1_readsHost_74 ?_
    refine lv_iload_n hx hb dX1_readsHost_77 rfl (lv_at hl 1 rfl) ?_
    refine lv_iload_n hx hb dX1_readsHost_78 rfl (lv_at hl 2 rfl) ?_
    refine lv_aload_n hx hb dX1_readsHost_79 rfl (lv_at hl 0 rfl) ?_
    refine va_get (D := G) (ci := 1) (v := .int (vR 0 6)) (C := RX1) (T := TX1) (N := 8) hx hb hts fi_X1_readsHost_X1 hown hEN.1 hP 0 rfl rfl 6 (by decide) (hts (.fieldLink RX1 57 "HourWell$Reader" "value" "I") (List.mem_of_getElem? (i := 3) rfl)) (fun _ h9 => h9) rfl dX1_readsHost_80 ?_
    obtain ⟨o83, ho83, h⟩ := bnd_some h
    refine call_VJ (wr := [oX1 aR aT aD vR, ai cI aT 200 vt]) (As := [.int x1, .int x2, .int (vR 0 6)]) (rest := []) ⟨hx, hb, hml, hown, hts⟩ (c_X4_addHost l G cI cZ aD vD x1 x2 (vR 0 6) o83 ho83) (cwV 3 hts gX1_readsHost_X4_addHost rfl rfl rfl hdV_X4_addHost ⟨Nat.le_of_ble_eq_true rfl, Nat.le_of_ble_eq_true rfl⟩) hEN hA hP hD hS [1, 2, 3, 4, 5, 6, 7, 8, 9, 10] [0, 11] rfl (by decide) rfl (by decide) (by decide) 1 rfl rfl rfl hl.1 rfl (Nat.le_of_ble_eq_true rfl) dX1_readsHost_83 ⟨Nat.le_of_ble_eq_true rfl, Nat.le_of_ble_eq_true rfl⟩ (fun H locs hP hD hS => ?_)
    have hP : va_P G vwCl [oX1 aR aT aD vR, ai cI aT 200 vt, oX4 aD o83.2, ai cI (aD 5) 7 (o83.2 5), ai cI (aD 6) 7 (o83.2 6), ai cI (aD 7) 7 (o83.2 7), ai cI (aD 8) 9 (o83.2 8), ai cI (aD 9) 9 (o83.2 9), ai cI (aD 10) 9 (o83.2 10), ai cI (aD 11) 6 (o83.2 11), ai cI (aD 12) 6 (o83.2 12), ai cI (aD 13) 6 (o83.2 13)] H := hP
    have hD : va_D A [oX1 aR aT aD vR, ai cI aT 200 vt, oX4 aD o83.2, ai cI (aD 5) 7 (o83.2 5), ai cI (aD 6) 7 (o83.2 6), ai cI (aD 7) 7 (o83.2 7), ai cI (aD 8) 9 (o83.2 8), ai cI (aD 9) 9 (o83.2 9), ai cI (aD 10) 9 (o83.2 10), ai cI (aD 11) 6 (o83.2 11), ai cI (aD 12) 6 (o83.2 12), ai cI (aD 13) 6 (o83.2 13)] := hD
    refine lv_if_eq (tgt := 93) hx hb dX1_readsHost_86 (by decide) (fun c86 => ?_) (fun c86 => ?_)
    · have h := (if_pos c86).symm.trans h
      refine lv_iconst (v := (0 : Int32)) hx hb dX1_readsHost_93 k_iconst_0 ?_
      have hres := Option.some.inj h
      subst hres
      exact hRet 94 nz0 _ _ _ (hP.sub [0, 2, 3, 4, 5, 6, 7, 8, 9, 10, 11, 1] rfl) (hD.sub [0, 2, 3, 4, 5, 6, 7, 8, 9, 10, 11, 1] (by decide) rfl) hS dX1_readsHost_94
    · have h := (if_neg c86).symm.trans h
      refine lv_iconst (v := (1 : Int32)) hx hb dX1_readsHost_89 k_iconst_1 ?_
      refine lv_goto (tgt := 94) hx hb dX1_readsHost_90 (by decide) ?_
      have hres := Option.some.inj h
      subst hres
      exact hRet 94 nz1 _ _ _ (hP.sub [0, 2, 3, 4, 5, 6, 7, 8, 9, 10, 11, 1] rfl) (hD.sub [0, 2, 3, 4, 5, 6, 7, 8, 9, 10, 11, 1] (by decide) rfl) hS dX1_readsHost_94
  unfold m_X1_readsHost at h
  refine lv_aload_n hx hb dX1_readsHost_0 rfl (lv_at hl 0 rfl) ?_
  refine va_get (D := G) (ci := 1) (v := .ref (aD 0)) (C := RX1) (T := TX1) (N := 8) hx hb hts fi_X1_readsHost_X1 hown hEN.1 hP 0 rfl rfl 1 (by decide) (hts (.fieldLink RX1 15 "HourWell$Reader" "world" "LHourWell$World;") (List.mem_of_getElem? (i := 1) rfl)) (fun _ h9 => h9) rfl dX1_readsHost_1 ?_
  refine va_get (D := G) (ci := 4) (v := .int (vD 0 2)) (C := RX4) (T := TX4) (N := 13) hx hb hts fi_X1_readsHost_X4 hown hEN.1 hP 1 rfl rfl 2 (by decide) (hts (.fieldLink RX1 92 "HourWell$World" "hosts" "I") (List.mem_of_getElem? (i := 2) rfl)) (fun _ h9 => h9) rfl dX1_readsHost_4 ?_
  refine lv_bipush (v := (6 : Int32)) hx hb dX1_readsHost_7 k_bipush_6 ?_
  refine lv_icmp_ge (tgt := 19) hx hb dX1_readsHost_9 (by decide) (fun c9 => ?_) (fun c9 => ?_)
  · have h := (if_pos c9).symm.trans h
    refine lv_iconst (v := (0 : Int32)) hx hb dX1_readsHost_19 k_iconst_0 ?_
    have hres := Option.some.inj h
    subst hres
    exact hRet 20 nz0 _ _ _ hP hD hS dX1_readsHost_20
  · have h := (if_neg c9).symm.trans h
    refine lv_aload_n hx hb dX1_readsHost_12 rfl (lv_at hl 0 rfl) ?_
    obtain ⟨o13, ho13, h⟩ := bnd_some h
    refine call_VJ (wr := [ai cI (aD 5) 7 (vD 5), ai cI (aD 6) 7 (vD 6), ai cI (aD 7) 7 (vD 7), ai cI (aD 8) 9 (vD 8), ai cI (aD 9) 9 (vD 9), ai cI (aD 10) 9 (vD 10), ai cI (aD 11) 6 (vD 11), ai cI (aD 12) 6 (vD 12), ai cI (aD 13) 6 (vD 13)]) (As := []) (rest := []) ⟨hx, hb, hml, hown, hts⟩ (c_X1_readsPlace l G cI cZ aR aD aT vR vD vt o13 ho13) (cwV 0 hts gX1_readsHost_X1_readsPlace rfl rfl rfl hdV_X1_readsPlace ⟨Nat.le_of_ble_eq_true rfl, Nat.le_of_ble_eq_true rfl⟩) hEN hA hP hD hS [0, 1, 11] [2, 3, 4, 5, 6, 7, 8, 9, 10] rfl (by decide) rfl (by decide) (by decide) 0 rfl rfl rfl hl.1 rfl (Nat.le_of_ble_eq_true rfl) dX1_readsHost_13 ⟨Nat.le_of_ble_eq_true rfl, Nat.le_of_ble_eq_true rfl⟩ (fun H locs hP hD hS => ?_)
    have hP : va_P G vwCl [ai cI (aD 5) 7 (vD 5), ai cI (aD 6) 7 (vD 6), ai cI (aD 7) 7 (vD 7), ai cI (aD 8) 9 (vD 8), ai cI (aD 9) 9 (vD 9), ai cI (aD 10) 9 (vD 10), ai cI (aD 11) 6 (vD 11), ai cI (aD 12) 6 (vD 12), ai cI (aD 13) 6 (vD 13), oX1 aR aT aD o13.2, oX4 aD vD, ai cI aT 200 vt] H := hP
    have hD : va_D A [ai cI (aD 5) 7 (vD 5), ai cI (aD 6) 7 (vD 6), ai cI (aD 7) 7 (vD 7), ai cI (aD 8) 9 (vD 8), ai cI (aD 9) 9 (vD 9), ai cI (aD 10) 9 (vD 10), ai cI (aD 11) 6 (vD 11), ai cI (aD 12) 6 (vD 12), ai cI (aD 13) 6 (vD 13), oX1 aR aT aD o13.2, oX4 aD vD, ai cI aT 200 vt] := hD
    refine lv_if_ne (tgt := 21) hx hb dX1_readsHost_16 (by decide) (fun c16 => ?_) (fun c16 => ?_)
    · have h := (if_neg c16).symm.trans h
      refine lv_aload_n hx hb dX1_readsHost_21 rfl (lv_at hl 0 rfl) ?_
      refine va_get (D := G) (ci := 1) (v := .int (o13.2 0 6)) (C := RX1) (T := TX1) (N := 8) hx hb hts fi_X1_readsHost_X1 hown hEN.1 hP 9 rfl rfl 6 (by decide) (hts (.fieldLink RX1 57 "HourWell$Reader" "value" "I") (List.mem_of_getElem? (i := 3) rfl)) (fun _ h9 => h9) rfl dX1_readsHost_22 ?_
      refine lv_istore_n (lv' := [(1, .int (o13.2 0 6)), (0, .ref (aR 0))]) hx hb dX1_readsHost_25 rfl hl (by decide) rfl (fun ls hl => ?_)
      refine lv_aload_n hx hb dX1_readsHost_26 rfl (lv_at hl 1 rfl) ?_
      refine lv_iconst (v := (0 : Int32)) hx hb dX1_readsHost_27 k_iconst_0 ?_
      refine lv_iconst (v := (4 : Int32)) hx hb dX1_readsHost_28 k_iconst_4 ?_
      obtain ⟨o29, ho29, h⟩ := bnd_some h
      refine call_VJ (wr := [ai cI (aD 5) 7 (vD 5), ai cI (aD 6) 7 (vD 6), ai cI (aD 7) 7 (vD 7), ai cI (aD 8) 9 (vD 8), ai cI (aD 9) 9 (vD 9), ai cI (aD 10) 9 (vD 10), ai cI (aD 11) 6 (vD 11), ai cI (aD 12) 6 (vD 12), ai cI (aD 13) 6 (vD 13), oX4 aD vD]) (As := [.int (0 : Int32), .int (4 : Int32)]) (rest := []) ⟨hx, hb, hml, hown, hts⟩ (c_X1_readsNumber l G cI cZ aR aD aT o13.2 vt (0 : Int32) (4 : Int32) o29 ho29) (cwV 2 hts gX1_readsHost_X1_readsNumber rfl rfl rfl hdV_X1_readsNumber ⟨Nat.le_of_ble_eq_true rfl, Nat.le_of_ble_eq_true rfl⟩) hEN hA hP hD hS [9, 11] [0, 1, 2, 3, 4, 5, 6, 7, 8, 10] rfl (by decide) rfl (by decide) (by decide) 9 rfl rfl rfl hl.1 rfl (Nat.le_of_ble_eq_true rfl) dX1_readsHost_29 ⟨Nat.le_of_ble_eq_true rfl, Nat.le_of_ble_eq_true rfl⟩ (fun H locs hP hD hS => ?_)
      have hP : va_P G vwCl [ai cI (aD 5) 7 (vD 5), ai cI (aD 6) 7 (vD 6), ai cI (aD 7) 7 (vD 7), ai cI (aD 8) 9 (vD 8), ai cI (aD 9) 9 (vD 9), ai cI (aD 10) 9 (vD 10), ai cI (aD 11) 6 (vD 11), ai cI (aD 12) 6 (vD 12), ai cI (aD 13) 6 (vD 13), oX4 aD vD, oX1 aR aT aD o29.2, ai cI aT 200 vt] H := hP
      have hD : va_D A [ai cI (aD 5) 7 (vD 5), ai cI (aD 6) 7 (vD 6), ai cI (aD 7) 7 (vD 7), ai cI (aD 8) 9 (vD 8), ai cI (aD 9) 9 (vD 9), ai cI (aD 10) 9 (vD 10), ai cI (aD 11) 6 (vD 11), ai cI (aD 12) 6 (vD 12), ai cI (aD 13) 6 (vD 13), oX4 aD vD, oX1 aR aT aD o29.2, ai cI aT 200 vt] := hD
      refine lv_if_ne (tgt := 37) hx hb dX1_readsHost_32 (by decide) (fun c32 => ?_) (fun c32 => ?_)
      · have h := (if_neg c32).symm.trans h
        refine lv_aload_n hx hb dX1_readsHost_37 rfl (lv_at hl 1 rfl) ?_
        refine va_get (D := G) (ci := 1) (v := .int (o29.2 0 6)) (C := RX1) (T := TX1) (N := 8) hx hb hts fi_X1_readsHost_X1 hown hEN.1 hP 10 rfl rfl 6 (by decide) (hts (.fieldLink RX1 57 "HourWell$Reader" "value" "I") (List.mem_of_getElem? (i := 3) rfl)) (fun _ h9 => h9) rfl dX1_readsHost_38 ?_
        refine lv_istore_n (lv' := [(2, .int (o29.2 0 6)), (1, .int (o13.2 0 6)), (0, .ref (aR 0))]) hx hb dX1_readsHost_41 rfl hl (by decide) rfl (fun ls hl => ?_)
        refine lv_aload_n hx hb dX1_readsHost_42 rfl (lv_at hl 2 rfl) ?_
        refine lv_iconst (v := (0 : Int32)) hx hb dX1_readsHost_43 k_iconst_0 ?_
        refine lv_bipush (v := (9 : Int32)) hx hb dX1_readsHost_44 k_bipush_9 ?_
        obtain ⟨o46, ho46, h⟩ := bnd_some h
        refine call_VJ (wr := [ai cI (aD 5) 7 (vD 5), ai cI (aD 6) 7 (vD 6), ai cI (aD 7) 7 (vD 7), ai cI (aD 8) 9 (vD 8), ai cI (aD 9) 9 (vD 9), ai cI (aD 10) 9 (vD 10), ai cI (aD 11) 6 (vD 11), ai cI (aD 12) 6 (vD 12), ai cI (aD 13) 6 (vD 13), oX4 aD vD]) (As := [.int (0 : Int32), .int (9 : Int32)]) (rest := []) ⟨hx, hb, hml, hown, hts⟩ (c_X1_readsNumber l G cI cZ aR aD aT o29.2 vt (0 : Int32) (9 : Int32) o46 ho46) (cwV 2 hts gX1_readsHost_X1_readsNumber rfl rfl rfl hdV_X1_readsNumber ⟨Nat.le_of_ble_eq_true rfl, Nat.le_of_ble_eq_true rfl⟩) hEN hA hP hD hS [10, 11] [0, 1, 2, 3, 4, 5, 6, 7, 8, 9] rfl (by decide) rfl (by decide) (by decide) 10 rfl rfl rfl hl.1 rfl (Nat.le_of_ble_eq_true rfl) dX1_readsHost_46 ⟨Nat.le_of_ble_eq_true rfl, Nat.le_of_ble_eq_true rfl⟩ (fun H locs hP hD hS => ?_)
        have hP : va_P G vwCl [ai cI (aD 5) 7 (vD 5), ai cI (aD 6) 7 (vD 6), ai cI (aD 7) 7 (vD 7), ai cI (aD 8) 9 (vD 8), ai cI (aD 9) 9 (vD 9), ai cI (aD 10) 9 (vD 10), ai cI (aD 11) 6 (vD 11), ai cI (aD 12) 6 (vD 12), ai cI (aD 13) 6 (vD 13), oX4 aD vD, oX1 aR aT aD o46.2, ai cI aT 200 vt] H := hP
        have hD : va_D A [ai cI (aD 5) 7 (vD 5), ai cI (aD 6) 7 (vD 6), ai cI (aD 7) 7 (vD 7), ai cI (aD 8) 9 (vD 8), ai cI (aD 9) 9 (vD 9), ai cI (aD 10) 9 (vD 10), ai cI (aD 11) 6 (vD 11), ai cI (aD 12) 6 (vD 12), ai cI (aD 13) 6 (vD 13), oX4 aD vD, oX1 aR aT aD o46.2, ai cI aT 200 vt] := hD
        refine lv_if_ne (tgt := 54) hx hb dX1_readsHost_49 (by decide) (fun c49 => ?_) (fun c49 => ?_)
        · have h := (if_neg c49).symm.trans h
          refine lv_aload_n hx hb dX1_readsHost_54 rfl (lv_at hl 2 rfl) ?_
          refine va_get (D := G) (ci := 1) (v := .int (o46.2 0 6)) (C := RX1) (T := TX1) (N := 8) hx hb hts fi_X1_readsHost_X1 hown hEN.1 hP 10 rfl rfl 6 (by decide) (hts (.fieldLink RX1 57 "HourWell$Reader" "value" "I") (List.mem_of_getElem? (i := 3) rfl)) (fun _ h9 => h9) rfl dX1_readsHost_55 ?_
          obtain ⟨o58, ho58, h⟩ := bnd_some h
          refine call_SN0 (As := [.int (o46.2 0 6)]) (rest := []) ⟨hx, hb, hml, hown, hts⟩ (c_X5_isThing l G cI cZ  (o46.2 0 6) o58 ho58) ⟨va_cnB 1 hts gX1_readsHost_X5_isThing_n95 rfl rfl rfl (hEN.2.1 _ (List.mem_of_getElem? (i := 5) rfl)) (hts (.initialized RX5) (List.mem_of_getElem? (i := 35) rfl)) hdS_X5_isThing ⟨Nat.le_of_ble_eq_true rfl, Nat.le_of_ble_eq_true rfl⟩, hts (.static yX5_isThing) (List.mem_of_getElem? (i := 37) rfl), trivial⟩ hEN hA hP hD hS [] rfl (by decide) rfl hl.1 rfl (Nat.le_of_ble_eq_true rfl) dX1_readsHost_58 ⟨Nat.le_of_ble_eq_true rfl, Nat.le_of_ble_eq_true rfl⟩ (fun H locs hP hS => ?_)
          refine lv_if_ne (tgt := 73) hx hb dX1_readsHost_61 (by decide) (fun c61 => ?_) (fun c61 => ?_)
          · have h := (if_neg c61).symm.trans h
            exact j73 o46.2 vD (o13.2 0 6) (o29.2 0 6) h _ _ _ (hP.sub [10, 9, 0, 1, 2, 3, 4, 5, 6, 7, 8, 11] rfl) (hD.sub [10, 9, 0, 1, 2, 3, 4, 5, 6, 7, 8, 11] (by decide) rfl) hS (lv_sub hl [2, 1, 0] rfl)
          · have h := (if_pos c61).symm.trans h
            refine lv_aload_n hx hb dX1_readsHost_64 rfl (lv_at hl 2 rfl) ?_
            refine va_get (D := G) (ci := 1) (v := .int (o46.2 0 6)) (C := RX1) (T := TX1) (N := 8) hx hb hts fi_X1_readsHost_X1 hown hEN.1 hP 10 rfl rfl 6 (by decide) (hts (.fieldLink RX1 57 "HourWell$Reader" "value" "I") (List.mem_of_getElem? (i := 3) rfl)) (fun _ h9 => h9) rfl dX1_readsHost_65 ?_
            refine lv_bipush (v := (9 : Int32)) hx hb dX1_readsHost_68 k_bipush_9 ?_
            refine lv_icmp_ne (tgt := 93) hx hb dX1_readsHost_70 (by decide) (fun c70 => ?_) (fun c70 => ?_)
            · have h := (if_neg c70).symm.trans h
              refine lv_iconst (v := (0 : Int32)) hx hb dX1_readsHost_93 k_iconst_0 ?_
              have hres := Option.some.inj h
              subst hres
              exact hRet 94 nz0 _ _ _ (hP.sub [10, 9, 0, 1, 2, 3, 4, 5, 6, 7, 8, 11] rfl) (hD.sub [10, 9, 0, 1, 2, 3, 4, 5, 6, 7, 8, 11] (by decide) rfl) hS dX1_readsHost_94
            · have h := (if_pos c70).symm.trans h
              exact j73 o46.2 vD (o13.2 0 6) (o29.2 0 6) h _ _ _ (hP.sub [10, 9, 0, 1, 2, 3, 4, 5, 6, 7, 8, 11] rfl) (hD.sub [10, 9, 0, 1, 2, 3, 4, 5, 6, 7, 8, 11] (by decide) rfl) hS (lv_sub hl [2, 1, 0] rfl)
        · have h := (if_pos c49).symm.trans h
          refine lv_iconst (v := (0 : Int32)) hx hb dX1_readsHost_52 k_iconst_0 ?_
          have hres := Option.some.inj h
          subst hres
          exact hRet 53 nz0 _ _ _ (hP.sub [10, 9, 0, 1, 2, 3, 4, 5, 6, 7, 8, 11] rfl) (hD.sub [10, 9, 0, 1, 2, 3, 4, 5, 6, 7, 8, 11] (by decide) rfl) hS dX1_readsHost_53
      · have h := (if_pos c32).symm.trans h
        refine lv_iconst (v := (0 : Int32)) hx hb dX1_readsHost_35 k_iconst_0 ?_
        have hres := Option.some.inj h
        subst hres
        exact hRet 36 nz0 _ _ _ (hP.sub [10, 9, 0, 1, 2, 3, 4, 5, 6, 7, 8, 11] rfl) (hD.sub [10, 9, 0, 1, 2, 3, 4, 5, 6, 7, 8, 11] (by decide) rfl) hS dX1_readsHost_36
    · have h := (if_pos c16).symm.trans h
      refine lv_iconst (v := (0 : Int32)) hx hb dX1_readsHost_19 k_iconst_0 ?_
      have hres := Option.some.inj h
      subst hres
      exact hRet 20 nz0 _ _ _ (hP.sub [9, 10, 0, 1, 2, 3, 4, 5, 6, 7, 8, 11] rfl) (hD.sub [9, 10, 0, 1, 2, 3, 4, 5, 6, 7, 8, 11] (by decide) rfl) hS dX1_readsHost_20
abbrev rm_X1_readsGate : Room := { frames := 3, cells := 0, slots := 0, locals := 64 }
theorem fi_X1_readsGate_X1 : ∀ w ∈ wsX10, w ∈ wsX1_readsGate := fun _ h => List.mem_cons_of_mem _ (List.mem_append_left _ (List.mem_append_right _ h))
theorem fi_X1_readsGate_X4 : ∀ w ∈ wsX40, w ∈ wsX1_readsGate := fun _ h => List.mem_cons_of_mem _ (List.mem_append_right _ h)
theorem hdV_X1_readsGate : yX1_readsGate.cls = RX1 ∧ yX1_readsGate.cls ≠ "java/lang/invoke/MethodHandle" ∧ yX1_readsGate.cls ≠ "java/lang/invoke/VarHandle" ∧ (parseMethodDescriptor yX1_readsGate.desc).map (fun d => d.parameters.length) = some 0 := by decide +kernel
set_option maxRecDepth 100000 in
set_option maxHeartbeats 4000000 in
theorem c_X1_readsGate (l : Launch) (G : va_G) (cI cZ : ClassId) (aR : Nat → Nat) (aD : Nat → Nat) (aT : Nat) (vR : Ob) (vD : Ob) (vt : (Nat → Int32))  (res : Int32 × Ob × Ob) (h : m_X1_readsGate vR vD vt  = some res) : Ct l yX1_readsGate wsX1_readsGate rm_X1_readsGate G cI cZ [.ref (aR 0)] [oX1 aR aT aD vR, oX4 aD vD, ai cI (aD 5) 7 (vD 5), ai cI (aD 6) 7 (vD 6), ai cI (aD 7) 7 (vD 7), ai cI (aD 8) 9 (vD 8), ai cI (aD 9) 9 (vD 9), ai cI (aD 10) 9 (vD 10), ai cI (aD 11) 6 (vD 11), ai cI (aD 12) 6 (vD 12), ai cI (aD 13) 6 (vD 13), ai cI aT 200 vt] (some (.int res.1)) [oX1 aR aT aD res.2.1, oX4 aD res.2.2, ai cI (aD 5) 7 (res.2.2 5), ai cI (aD 6) 7 (res.2.2 6), ai cI (aD 7) 7 (res.2.2 7), ai cI (aD 8) 9 (res.2.2 8), ai cI (aD 9) 9 (res.2.2 9), ai cI (aD 10) 9 (res.2.2 10), ai cI (aD 11) 6 (res.2.2 11), ai cI (aD 12) 6 (res.2.2 12), ai cI (aD 13) 6 (res.2.2 13), ai cI aT 200 vt] := by
  refine Ct.of_z (maxL := 3) (by decide) rfl (Nat.le_of_ble_eq_true rfl) ?_
  intro p e s m below meth c args hx hb hml hown hts A hA hEN hP hD hS Q hRet ls hl
  have hown : s.vm.findClass RX1 = some m.cls := hown
  have hl : lv_has ls 3 [(0, .ref (aR 0))] := hl
  unfold m_X1_readsGate at h
  refine lv_aload_n hx hb dX1_readsGate_0 rfl (lv_at hl 0 rfl) ?_
  obtain ⟨o1, ho1, h⟩ := bnd_some h
  refine call_VJ (wr := [ai cI (aD 5) 7 (vD 5), ai cI (aD 6) 7 (vD 6), ai cI (aD 7) 7 (vD 7), ai cI (aD 8) 9 (vD 8), ai cI (aD 9) 9 (vD 9), ai cI (aD 10) 9 (vD 10), ai cI (aD 11) 6 (vD 11), ai cI (aD 12) 6 (vD 12), ai cI (aD 13) 6 (vD 13)]) (As := []) (rest := []) ⟨hx, hb, hml, hown, hts⟩ (c_X1_readsPlace l G cI cZ aR aD aT vR vD vt o1 ho1) (cwV 0 hts gX1_readsGate_X1_readsPlace rfl rfl rfl hdV_X1_readsPlace ⟨Nat.le_of_ble_eq_true rfl, Nat.le_of_ble_eq_true rfl⟩) hEN hA hP hD hS [0, 1, 11] [2, 3, 4, 5, 6, 7, 8, 9, 10] rfl (by decide) rfl (by decide) (by decide) 0 rfl rfl rfl hl.1 rfl (Nat.le_of_ble_eq_true rfl) dX1_readsGate_1 ⟨Nat.le_of_ble_eq_true rfl, Nat.le_of_ble_eq_true rfl⟩ (fun H locs hP hD hS => ?_)
  have hP : va_P G vwCl [ai cI (aD 5) 7 (vD 5), ai cI (aD 6) 7 (vD 6), ai cI (aD 7) 7 (vD 7), ai cI (aD 8) 9 (vD 8), ai cI (aD 9) 9 (vD 9), ai cI (aD 10) 9 (vD 10), ai cI (aD 11) 6 (vD 11), ai cI (aD 12) 6 (vD 12), ai cI (aD 13) 6 (vD 13), oX1 aR aT aD o1.2, oX4 aD vD, ai cI aT 200 vt] H := hP
  have hD : va_D A [ai cI (aD 5) 7 (vD 5), ai cI (aD 6) 7 (vD 6), ai cI (aD 7) 7 (vD 7), ai cI (aD 8) 9 (vD 8), ai cI (aD 9) 9 (vD 9), ai cI (aD 10) 9 (vD 10), ai cI (aD 11) 6 (vD 11), ai cI (aD 12) 6 (vD 12), ai cI (aD 13) 6 (vD 13), oX1 aR aT aD o1.2, oX4 aD vD, ai cI aT 200 vt] := hD
  refine lv_if_eq (tgt := 30) hx hb dX1_readsGate_4 (by decide) (fun c4 => ?_) (fun c4 => ?_)
  · have h := (if_pos c4).symm.trans h
    refine lv_iconst (v := (0 : Int32)) hx hb dX1_readsGate_30 k_iconst_0 ?_
    have hres := Option.some.inj h
    subst hres
    exact hRet 31 nz0 _ _ _ (hP.sub [9, 10, 0, 1, 2, 3, 4, 5, 6, 7, 8, 11] rfl) (hD.sub [9, 10, 0, 1, 2, 3, 4, 5, 6, 7, 8, 11] (by decide) rfl) hS dX1_readsGate_31
  · have h := (if_neg c4).symm.trans h
    refine lv_aload_n hx hb dX1_readsGate_7 rfl (lv_at hl 0 rfl) ?_
    refine va_get (D := G) (ci := 1) (v := .int (o1.2 0 6)) (C := RX1) (T := TX1) (N := 8) hx hb hts fi_X1_readsGate_X1 hown hEN.1 hP 9 rfl rfl 6 (by decide) (hts (.fieldLink RX1 57 "HourWell$Reader" "value" "I") (List.mem_of_getElem? (i := 1) rfl)) (fun _ h9 => h9) rfl dX1_readsGate_8 ?_
    refine lv_if_eq (tgt := 30) hx hb dX1_readsGate_11 (by decide) (fun c11 => ?_) (fun c11 => ?_)
    · have h := (if_pos c11).symm.trans h
      refine lv_iconst (v := (0 : Int32)) hx hb dX1_readsGate_30 k_iconst_0 ?_
      have hres := Option.some.inj h
      subst hres
      exact hRet 31 nz0 _ _ _ (hP.sub [9, 10, 0, 1, 2, 3, 4, 5, 6, 7, 8, 11] rfl) (hD.sub [9, 10, 0, 1, 2, 3, 4, 5, 6, 7, 8, 11] (by decide) rfl) hS dX1_readsGate_31
    · have h := (if_neg c11).symm.trans h
      refine lv_aload_n hx hb dX1_readsGate_14 rfl (lv_at hl 0 rfl) ?_
      refine va_get (D := G) (ci := 1) (v := .ref (aD 0)) (C := RX1) (T := TX1) (N := 8) hx hb hts fi_X1_readsGate_X1 hown hEN.1 hP 9 rfl rfl 1 (by decide) (hts (.fieldLink RX1 15 "HourWell$Reader" "world" "LHourWell$World;") (List.mem_of_getElem? (i := 2) rfl)) (fun _ h9 => h9) rfl dX1_readsGate_15 ?_
      refine lv_aload_n hx hb dX1_readsGate_18 rfl (lv_at hl 0 rfl) ?_
      refine va_get (D := G) (ci := 1) (v := .int (o1.2 0 6)) (C := RX1) (T := TX1) (N := 8) hx hb hts fi_X1_readsGate_X1 hown hEN.1 hP 9 rfl rfl 6 (by decide) (hts (.fieldLink RX1 57 "HourWell$Reader" "value" "I") (List.mem_of_getElem? (i := 1) rfl)) (fun _ h9 => h9) rfl dX1_readsGate_19 ?_
      obtain ⟨o22, ho22, h⟩ := bnd_some h
      refine call_V0 (As := [.int (o1.2 0 6)]) (rest := []) ⟨hx, hb, hml, hown, hts⟩ (c_X4_gateFromAt l G cI cZ aD vD (o1.2 0 6) o22 ho22) (cwV 1 hts gX1_readsGate_X4_gateFromAt rfl rfl rfl hdV_X4_gateFromAt ⟨Nat.le_of_ble_eq_true rfl, Nat.le_of_ble_eq_true rfl⟩) hEN hA hP hD hS [10, 1] rfl (by decide) 10 rfl rfl rfl hl.1 rfl (Nat.le_of_ble_eq_true rfl) dX1_readsGate_22 ⟨Nat.le_of_ble_eq_true rfl, Nat.le_of_ble_eq_true rfl⟩ (fun H locs hP hS => ?_)
      refine lv_bipush (v := (-9 : Int32)) hx hb dX1_readsGate_25 k_bipush_n9 ?_
      refine lv_icmp_eq (tgt := 32) hx hb dX1_readsGate_27 (by decide) (fun c27 => ?_) (fun c27 => ?_)
      · have h := (if_pos c27).symm.trans h
        refine lv_aload_n hx hb dX1_readsGate_32 rfl (lv_at hl 0 rfl) ?_
        refine va_get (D := G) (ci := 1) (v := .int (o1.2 0 6)) (C := RX1) (T := TX1) (N := 8) hx hb hts fi_X1_readsGate_X1 hown hEN.1 hP 9 rfl rfl 6 (by decide) (hts (.fieldLink RX1 57 "HourWell$Reader" "value" "I") (List.mem_of_getElem? (i := 1) rfl)) (fun _ h9 => h9) rfl dX1_readsGate_33 ?_
        refine lv_istore_n (lv' := [(1, .int (o1.2 0 6)), (0, .ref (aR 0))]) hx hb dX1_readsGate_36 rfl hl (by decide) rfl (fun ls hl => ?_)
        refine lv_aload_n hx hb dX1_readsGate_37 rfl (lv_at hl 1 rfl) ?_
        refine lv_iconst (v := (0 : Int32)) hx hb dX1_readsGate_38 k_iconst_0 ?_
        refine lv_bipush (v := (23 : Int32)) hx hb dX1_readsGate_39 k_bipush_23 ?_
        obtain ⟨o41, ho41, h⟩ := bnd_some h
        refine call_VJ (wr := [ai cI (aD 5) 7 (vD 5), ai cI (aD 6) 7 (vD 6), ai cI (aD 7) 7 (vD 7), ai cI (aD 8) 9 (vD 8), ai cI (aD 9) 9 (vD 9), ai cI (aD 10) 9 (vD 10), ai cI (aD 11) 6 (vD 11), ai cI (aD 12) 6 (vD 12), ai cI (aD 13) 6 (vD 13), oX4 aD vD]) (As := [.int (0 : Int32), .int (23 : Int32)]) (rest := []) ⟨hx, hb, hml, hown, hts⟩ (c_X1_readsNumber l G cI cZ aR aD aT o1.2 vt (0 : Int32) (23 : Int32) o41 ho41) (cwV 2 hts gX1_readsGate_X1_readsNumber rfl rfl rfl hdV_X1_readsNumber ⟨Nat.le_of_ble_eq_true rfl, Nat.le_of_ble_eq_true rfl⟩) hEN hA hP hD hS [9, 11] [0, 1, 2, 3, 4, 5, 6, 7, 8, 10] rfl (by decide) rfl (by decide) (by decide) 9 rfl rfl rfl hl.1 rfl (Nat.le_of_ble_eq_true rfl) dX1_readsGate_41 ⟨Nat.le_of_ble_eq_true rfl, Nat.le_of_ble_eq_true rfl⟩ (fun H locs hP hD hS => ?_)
        have hP : va_P G vwCl [ai cI (aD 5) 7 (vD 5), ai cI (aD 6) 7 (vD 6), ai cI (aD 7) 7 (vD 7), ai cI (aD 8) 9 (vD 8), ai cI (aD 9) 9 (vD 9), ai cI (aD 10) 9 (vD 10), ai cI (aD 11) 6 (vD 11), ai cI (aD 12) 6 (vD 12), ai cI (aD 13) 6 (vD 13), oX4 aD vD, oX1 aR aT aD o41.2, ai cI aT 200 vt] H := hP
        have hD : va_D A [ai cI (aD 5) 7 (vD 5), ai cI (aD 6) 7 (vD 6), ai cI (aD 7) 7 (vD 7), ai cI (aD 8) 9 (vD 8), ai cI (aD 9) 9 (vD 9), ai cI (aD 10) 9 (vD 10), ai cI (aD 11) 6 (vD 11), ai cI (aD 12) 6 (vD 12), ai cI (aD 13) 6 (vD 13), oX4 aD vD, oX1 aR aT aD o41.2, ai cI aT 200 vt] := hD
        refine lv_if_ne (tgt := 49) hx hb dX1_readsGate_44 (by decide) (fun c44 => ?_) (fun c44 => ?_)
        · have h := (if_neg c44).symm.trans h
          refine lv_aload_n hx hb dX1_readsGate_49 rfl (lv_at hl 1 rfl) ?_
          refine va_get (D := G) (ci := 1) (v := .int (o41.2 0 6)) (C := RX1) (T := TX1) (N := 8) hx hb hts fi_X1_readsGate_X1 hown hEN.1 hP 10 rfl rfl 6 (by decide) (hts (.fieldLink RX1 57 "HourWell$Reader" "value" "I") (List.mem_of_getElem? (i := 1) rfl)) (fun _ h9 => h9) rfl dX1_readsGate_50 ?_
          refine lv_istore_n (lv' := [(2, .int (o41.2 0 6)), (1, .int (o1.2 0 6)), (0, .ref (aR 0))]) hx hb dX1_readsGate_53 rfl hl (by decide) rfl (fun ls hl => ?_)
          refine lv_aload_n hx hb dX1_readsGate_54 rfl (lv_at hl 2 rfl) ?_
          refine lv_iconst (v := (1 : Int32)) hx hb dX1_readsGate_55 k_iconst_1 ?_
          refine lv_bipush (v := (24 : Int32)) hx hb dX1_readsGate_56 k_bipush_24 ?_
          obtain ⟨o58, ho58, h⟩ := bnd_some h
          refine call_VJ (wr := [ai cI (aD 5) 7 (vD 5), ai cI (aD 6) 7 (vD 6), ai cI (aD 7) 7 (vD 7), ai cI (aD 8) 9 (vD 8), ai cI (aD 9) 9 (vD 9), ai cI (aD 10) 9 (vD 10), ai cI (aD 11) 6 (vD 11), ai cI (aD 12) 6 (vD 12), ai cI (aD 13) 6 (vD 13), oX4 aD vD]) (As := [.int (1 : Int32), .int (24 : Int32)]) (rest := []) ⟨hx, hb, hml, hown, hts⟩ (c_X1_readsNumber l G cI cZ aR aD aT o41.2 vt (1 : Int32) (24 : Int32) o58 ho58) (cwV 2 hts gX1_readsGate_X1_readsNumber rfl rfl rfl hdV_X1_readsNumber ⟨Nat.le_of_ble_eq_true rfl, Nat.le_of_ble_eq_true rfl⟩) hEN hA hP hD hS [10, 11] [0, 1, 2, 3, 4, 5, 6, 7, 8, 9] rfl (by decide) rfl (by decide) (by decide) 10 rfl rfl rfl hl.1 rfl (Nat.le_of_ble_eq_true rfl) dX1_readsGate_58 ⟨Nat.le_of_ble_eq_true rfl, Nat.le_of_ble_eq_true rfl⟩ (fun H locs hP hD hS => ?_)
          have hP : va_P G vwCl [ai cI (aD 5) 7 (vD 5), ai cI (aD 6) 7 (vD 6), ai cI (aD 7) 7 (vD 7), ai cI (aD 8) 9 (vD 8), ai cI (aD 9) 9 (vD 9), ai cI (aD 10) 9 (vD 10), ai cI (aD 11) 6 (vD 11), ai cI (aD 12) 6 (vD 12), ai cI (aD 13) 6 (vD 13), oX4 aD vD, oX1 aR aT aD o58.2, ai cI aT 200 vt] H := hP
          have hD : va_D A [ai cI (aD 5) 7 (vD 5), ai cI (aD 6) 7 (vD 6), ai cI (aD 7) 7 (vD 7), ai cI (aD 8) 9 (vD 8), ai cI (aD 9) 9 (vD 9), ai cI (aD 10) 9 (vD 10), ai cI (aD 11) 6 (vD 11), ai cI (aD 12) 6 (vD 12), ai cI (aD 13) 6 (vD 13), oX4 aD vD, oX1 aR aT aD o58.2, ai cI aT 200 vt] := hD
          refine lv_if_eq (tgt := 84) hx hb dX1_readsGate_61 (by decide) (fun c61 => ?_) (fun c61 => ?_)
          · have h := (if_pos c61).symm.trans h
            refine lv_iconst (v := (0 : Int32)) hx hb dX1_readsGate_84 k_iconst_0 ?_
            have hres := Option.some.inj h
            subst hres
            exact hRet 85 nz0 _ _ _ (hP.sub [10, 9, 0, 1, 2, 3, 4, 5, 6, 7, 8, 11] rfl) (hD.sub [10, 9, 0, 1, 2, 3, 4, 5, 6, 7, 8, 11] (by decide) rfl) hS dX1_readsGate_85
          · have h := (if_neg c61).symm.trans h
            refine lv_aload_n hx hb dX1_readsGate_64 rfl (lv_at hl 2 rfl) ?_
            refine va_get (D := G) (ci := 1) (v := .ref (aD 0)) (C := RX1) (T := TX1) (N := 8) hx hb hts fi_X1_readsGate_X1 hown hEN.1 hP 10 rfl rfl 1 (by decide) (hts (.fieldLink RX1 15 "HourWell$Reader" "world" "LHourWell$World;") (List.mem_of_getElem? (i := 2) rfl)) (fun _ h9 => h9) rfl dX1_readsGate_65 ?_
            refine lv_iload_n hx hb dX1_readsGate_68 rfl (lv_at hl 1 rfl) ?_
            refine lv_iload_n hx hb dX1_readsGate_69 rfl (lv_at hl 0 rfl) ?_
            refine lv_aload_n hx hb dX1_readsGate_70 rfl (lv_at hl 2 rfl) ?_
            refine va_get (D := G) (ci := 1) (v := .int (o58.2 0 6)) (C := RX1) (T := TX1) (N := 8) hx hb hts fi_X1_readsGate_X1 hown hEN.1 hP 10 rfl rfl 6 (by decide) (hts (.fieldLink RX1 57 "HourWell$Reader" "value" "I") (List.mem_of_getElem? (i := 1) rfl)) (fun _ h9 => h9) rfl dX1_readsGate_71 ?_
            obtain ⟨o74, ho74, h⟩ := bnd_some h
            refine call_VJ (wr := [oX1 aR aT aD o58.2, ai cI aT 200 vt]) (As := [.int (o1.2 0 6), .int (o41.2 0 6), .int (o58.2 0 6)]) (rest := []) ⟨hx, hb, hml, hown, hts⟩ (c_X4_addGate l G cI cZ aD vD (o1.2 0 6) (o41.2 0 6) (o58.2 0 6) o74 ho74) (cwV 3 hts gX1_readsGate_X4_addGate rfl rfl rfl hdV_X4_addGate ⟨Nat.le_of_ble_eq_true rfl, Nat.le_of_ble_eq_true rfl⟩) hEN hA hP hD hS [9, 0, 1, 2, 3, 4, 5, 6, 7, 8] [10, 11] rfl (by decide) rfl (by decide) (by decide) 9 rfl rfl rfl hl.1 rfl (Nat.le_of_ble_eq_true rfl) dX1_readsGate_74 ⟨Nat.le_of_ble_eq_true rfl, Nat.le_of_ble_eq_true rfl⟩ (fun H locs hP hD hS => ?_)
            have hP : va_P G vwCl [oX1 aR aT aD o58.2, ai cI aT 200 vt, oX4 aD o74.2, ai cI (aD 5) 7 (o74.2 5), ai cI (aD 6) 7 (o74.2 6), ai cI (aD 7) 7 (o74.2 7), ai cI (aD 8) 9 (o74.2 8), ai cI (aD 9) 9 (o74.2 9), ai cI (aD 10) 9 (o74.2 10), ai cI (aD 11) 6 (o74.2 11), ai cI (aD 12) 6 (o74.2 12), ai cI (aD 13) 6 (o74.2 13)] H := hP
            have hD : va_D A [oX1 aR aT aD o58.2, ai cI aT 200 vt, oX4 aD o74.2, ai cI (aD 5) 7 (o74.2 5), ai cI (aD 6) 7 (o74.2 6), ai cI (aD 7) 7 (o74.2 7), ai cI (aD 8) 9 (o74.2 8), ai cI (aD 9) 9 (o74.2 9), ai cI (aD 10) 9 (o74.2 10), ai cI (aD 11) 6 (o74.2 11), ai cI (aD 12) 6 (o74.2 12), ai cI (aD 13) 6 (o74.2 13)] := hD
            refine lv_if_eq (tgt := 84) hx hb dX1_readsGate_77 (by decide) (fun c77 => ?_) (fun c77 => ?_)
            · have h := (if_pos c77).symm.trans h
              refine lv_iconst (v := (0 : Int32)) hx hb dX1_readsGate_84 k_iconst_0 ?_
              have hres := Option.some.inj h
              subst hres
              exact hRet 85 nz0 _ _ _ (hP.sub [0, 2, 3, 4, 5, 6, 7, 8, 9, 10, 11, 1] rfl) (hD.sub [0, 2, 3, 4, 5, 6, 7, 8, 9, 10, 11, 1] (by decide) rfl) hS dX1_readsGate_85
            · have h := (if_neg c77).symm.trans h
              refine lv_iconst (v := (1 : Int32)) hx hb dX1_readsGate_80 k_iconst_1 ?_
              refine lv_goto (tgt := 85) hx hb dX1_readsGate_81 (by decide) ?_
              have hres := Option.some.inj h
              subst hres
              exact hRet 85 nz1 _ _ _ (hP.sub [0, 2, 3, 4, 5, 6, 7, 8, 9, 10, 11, 1] rfl) (hD.sub [0, 2, 3, 4, 5, 6, 7, 8, 9, 10, 11, 1] (by decide) rfl) hS dX1_readsGate_85
        · have h := (if_pos c44).symm.trans h
          refine lv_iconst (v := (0 : Int32)) hx hb dX1_readsGate_47 k_iconst_0 ?_
          have hres := Option.some.inj h
          subst hres
          exact hRet 48 nz0 _ _ _ (hP.sub [10, 9, 0, 1, 2, 3, 4, 5, 6, 7, 8, 11] rfl) (hD.sub [10, 9, 0, 1, 2, 3, 4, 5, 6, 7, 8, 11] (by decide) rfl) hS dX1_readsGate_48
      · have h := (if_neg c27).symm.trans h
        refine lv_iconst (v := (0 : Int32)) hx hb dX1_readsGate_30 k_iconst_0 ?_
        have hres := Option.some.inj h
        subst hres
        exact hRet 31 nz0 _ _ _ (hP.sub [9, 10, 0, 1, 2, 3, 4, 5, 6, 7, 8, 11] rfl) (hD.sub [9, 10, 0, 1, 2, 3, 4, 5, 6, 7, 8, 11] (by decide) rfl) hS dX1_readsGate_31
abbrev rm_X1_readsItem : Room := { frames := 4, cells := 0, slots := 0, locals := 86 }
theorem fi_X1_readsItem_X1 : ∀ w ∈ wsX10, w ∈ wsX1_readsItem := fun _ h => List.mem_cons_of_mem _ (List.mem_append_left _ (List.mem_append_right _ h))
theorem fi_X1_readsItem_X4 : ∀ w ∈ wsX40, w ∈ wsX1_readsItem := fun _ h => List.mem_cons_of_mem _ (List.mem_append_right _ h)
theorem hdV_X1_readsItem : yX1_readsItem.cls = RX1 ∧ yX1_readsItem.cls ≠ "java/lang/invoke/MethodHandle" ∧ yX1_readsItem.cls ≠ "java/lang/invoke/VarHandle" ∧ (parseMethodDescriptor yX1_readsItem.desc).map (fun d => d.parameters.length) = some 0 := by decide +kernel
set_option maxRecDepth 100000 in
set_option maxHeartbeats 4000000 in
theorem c_X1_readsItem (l : Launch) (G : va_G) (cI cZ : ClassId) (aR : Nat → Nat) (aD : Nat → Nat) (aT : Nat) (vR : Ob) (vD : Ob) (vt : (Nat → Int32))  (res : Int32 × Ob × Ob) (h : m_X1_readsItem vR vD vt  = some res) : Ct l yX1_readsItem wsX1_readsItem rm_X1_readsItem G cI cZ [.ref (aR 0)] [oX1 aR aT aD vR, oX4 aD vD, ai cI (aD 5) 7 (vD 5), ai cI (aD 6) 7 (vD 6), ai cI (aD 7) 7 (vD 7), ai cI (aD 8) 9 (vD 8), ai cI (aD 9) 9 (vD 9), ai cI (aD 10) 9 (vD 10), ai cI (aD 11) 6 (vD 11), ai cI (aD 12) 6 (vD 12), ai cI (aD 13) 6 (vD 13), ai cI aT 200 vt] (some (.int res.1)) [oX1 aR aT aD res.2.1, oX4 aD res.2.2, ai cI (aD 5) 7 (res.2.2 5), ai cI (aD 6) 7 (res.2.2 6), ai cI (aD 7) 7 (res.2.2 7), ai cI (aD 8) 9 (res.2.2 8), ai cI (aD 9) 9 (res.2.2 9), ai cI (aD 10) 9 (res.2.2 10), ai cI (aD 11) 6 (res.2.2 11), ai cI (aD 12) 6 (res.2.2 12), ai cI (aD 13) 6 (res.2.2 13), ai cI aT 200 vt] := by
  refine Ct.of_z (maxL := 1) (by decide) rfl (Nat.le_of_ble_eq_true rfl) ?_
  intro p e s m below meth c args hx hb hml hown hts A hA hEN hP hD hS Q hRet ls hl
  have hown : s.vm.findClass RX1 = some m.cls := hown
  have hl : lv_has ls 1 [(0, .ref (aR 0))] := hl
  unfold m_X1_readsItem at h
  refine lv_aload_n hx hb dX1_readsItem_0 rfl (lv_at hl 0 rfl) ?_
  refine va_get (D := G) (ci := 1) (v := .int (vR 0 5)) (C := RX1) (T := TX1) (N := 8) hx hb hts fi_X1_readsItem_X1 hown hEN.1 hP 0 rfl rfl 5 (by decide) (hts (.fieldLink RX1 44 "HourWell$Reader" "kind" "I") (List.mem_of_getElem? (i := 1) rfl)) (fun _ h9 => h9) rfl dX1_readsItem_1 ?_
  refine lv_iconst (v := (1 : Int32)) hx hb dX1_readsItem_4 k_iconst_1 ?_
  refine lv_icmp_eq (tgt := 10) hx hb dX1_readsItem_5 (by decide) (fun c5 => ?_) (fun c5 => ?_)
  · have h := (if_pos c5).symm.trans h
    refine lv_aload_n hx hb dX1_readsItem_10 rfl (lv_at hl 0 rfl) ?_
    refine va_get (D := G) (ci := 1) (v := .int (vR 0 6)) (C := RX1) (T := TX1) (N := 8) hx hb hts fi_X1_readsItem_X1 hown hEN.1 hP 0 rfl rfl 6 (by decide) (hts (.fieldLink RX1 57 "HourWell$Reader" "value" "I") (List.mem_of_getElem? (i := 2) rfl)) (fun _ h9 => h9) rfl dX1_readsItem_11 ?_
    by_cases c14_0 : (vR 0 6) = (103 : Int32)
    · have h := (if_pos c14_0).symm.trans h
      refine lv_tableIn (off := 85) (tgt := 99) hx hb dX1_readsItem_14 (by rw [c14_0]; decide) (by rw [c14_0]; decide) (by rw [c14_0]; decide) (by decide) ?_
      refine lv_aload_n hx hb dX1_readsItem_99 rfl (lv_at hl 0 rfl) ?_
      obtain ⟨o100, ho100, h⟩ := bnd_some h
      refine call_VJ (wr := []) (As := []) (rest := []) ⟨hx, hb, hml, hown, hts⟩ (c_X1_readsGate l G cI cZ aR aD aT vR vD vt o100 ho100) (cwV 0 hts gX1_readsItem_X1_readsGate rfl rfl rfl hdV_X1_readsGate ⟨Nat.le_of_ble_eq_true rfl, Nat.le_of_ble_eq_true rfl⟩) hEN hA hP hD hS [0, 1, 2, 3, 4, 5, 6, 7, 8, 9, 10, 11] [] rfl (by decide) rfl (by decide) (by decide) 0 rfl rfl rfl hl.1 rfl (Nat.le_of_ble_eq_true rfl) dX1_readsItem_100 ⟨Nat.le_of_ble_eq_true rfl, Nat.le_of_ble_eq_true rfl⟩ (fun H locs hP hD hS => ?_)
      have hP : va_P G vwCl [oX1 aR aT aD o100.2.1, oX4 aD o100.2.2, ai cI (aD 5) 7 (o100.2.2 5), ai cI (aD 6) 7 (o100.2.2 6), ai cI (aD 7) 7 (o100.2.2 7), ai cI (aD 8) 9 (o100.2.2 8), ai cI (aD 9) 9 (o100.2.2 9), ai cI (aD 10) 9 (o100.2.2 10), ai cI (aD 11) 6 (o100.2.2 11), ai cI (aD 12) 6 (o100.2.2 12), ai cI (aD 13) 6 (o100.2.2 13), ai cI aT 200 vt] H := hP
      have hD : va_D A [oX1 aR aT aD o100.2.1, oX4 aD o100.2.2, ai cI (aD 5) 7 (o100.2.2 5), ai cI (aD 6) 7 (o100.2.2 6), ai cI (aD 7) 7 (o100.2.2 7), ai cI (aD 8) 9 (o100.2.2 8), ai cI (aD 9) 9 (o100.2.2 9), ai cI (aD 10) 9 (o100.2.2 10), ai cI (aD 11) 6 (o100.2.2 11), ai cI (aD 12) 6 (o100.2.2 12), ai cI (aD 13) 6 (o100.2.2 13), ai cI aT 200 vt] := hD
      obtain ⟨hg103, h⟩ := grd_some h
      have hres := Option.some.inj h
      subst hres
      exact hRet 103 (bz_n hg103) _ _ _ hP hD hS dX1_readsItem_103
    · have h := (if_neg c14_0).symm.trans h
      by_cases c14_1 : (vR 0 6) = (104 : Int32)
      · have h := (if_pos c14_1).symm.trans h
        refine lv_tableIn (off := 75) (tgt := 89) hx hb dX1_readsItem_14 (by rw [c14_1]; decide) (by rw [c14_1]; decide) (by rw [c14_1]; decide) (by decide) ?_
        refine lv_aload_n hx hb dX1_readsItem_89 rfl (lv_at hl 0 rfl) ?_
        obtain ⟨o90, ho90, h⟩ := bnd_some h
        refine call_VJ (wr := []) (As := []) (rest := []) ⟨hx, hb, hml, hown, hts⟩ (c_X1_readsHost l G cI cZ aR aD aT vR vD vt o90 ho90) (cwV 0 hts gX1_readsItem_X1_readsHost rfl rfl rfl hdV_X1_readsHost ⟨Nat.le_of_ble_eq_true rfl, Nat.le_of_ble_eq_true rfl⟩) hEN hA hP hD hS [0, 1, 2, 3, 4, 5, 6, 7, 8, 9, 10, 11] [] rfl (by decide) rfl (by decide) (by decide) 0 rfl rfl rfl hl.1 rfl (Nat.le_of_ble_eq_true rfl) dX1_readsItem_90 ⟨Nat.le_of_ble_eq_true rfl, Nat.le_of_ble_eq_true rfl⟩ (fun H locs hP hD hS => ?_)
        have hP : va_P G vwCl [oX1 aR aT aD o90.2.1, oX4 aD o90.2.2, ai cI (aD 5) 7 (o90.2.2 5), ai cI (aD 6) 7 (o90.2.2 6), ai cI (aD 7) 7 (o90.2.2 7), ai cI (aD 8) 9 (o90.2.2 8), ai cI (aD 9) 9 (o90.2.2 9), ai cI (aD 10) 9 (o90.2.2 10), ai cI (aD 11) 6 (o90.2.2 11), ai cI (aD 12) 6 (o90.2.2 12), ai cI (aD 13) 6 (o90.2.2 13), ai cI aT 200 vt] H := hP
        have hD : va_D A [oX1 aR aT aD o90.2.1, oX4 aD o90.2.2, ai cI (aD 5) 7 (o90.2.2 5), ai cI (aD 6) 7 (o90.2.2 6), ai cI (aD 7) 7 (o90.2.2 7), ai cI (aD 8) 9 (o90.2.2 8), ai cI (aD 9) 9 (o90.2.2 9), ai cI (aD 10) 9 (o90.2.2 10), ai cI (aD 11) 6 (o90.2.2 11), ai cI (aD 12) 6 (o90.2.2 12), ai cI (aD 13) 6 (o90.2.2 13), ai cI aT 200 vt] := hD
        obtain ⟨hg93, h⟩ := grd_some h
        have hres := Option.some.inj h
        subst hres
        exact hRet 93 (bz_n hg93) _ _ _ hP hD hS dX1_readsItem_93
      · have h := (if_neg c14_1).symm.trans h
        by_cases c14_2 : (vR 0 6) = (108 : Int32)
        · have h := (if_pos c14_2).symm.trans h
          refine lv_tableIn (off := 80) (tgt := 94) hx hb dX1_readsItem_14 (by rw [c14_2]; decide) (by rw [c14_2]; decide) (by rw [c14_2]; decide) (by decide) ?_
          refine lv_aload_n hx hb dX1_readsItem_94 rfl (lv_at hl 0 rfl) ?_
          obtain ⟨o95, ho95, h⟩ := bnd_some h
          refine call_VJ (wr := []) (As := []) (rest := []) ⟨hx, hb, hml, hown, hts⟩ (c_X1_readsLion l G cI cZ aR aD aT vR vD vt o95 ho95) (cwV 0 hts gX1_readsItem_X1_readsLion rfl rfl rfl hdV_X1_readsLion ⟨Nat.le_of_ble_eq_true rfl, Nat.le_of_ble_eq_true rfl⟩) hEN hA hP hD hS [0, 1, 2, 3, 4, 5, 6, 7, 8, 9, 10, 11] [] rfl (by decide) rfl (by decide) (by decide) 0 rfl rfl rfl hl.1 rfl (Nat.le_of_ble_eq_true rfl) dX1_readsItem_95 ⟨Nat.le_of_ble_eq_true rfl, Nat.le_of_ble_eq_true rfl⟩ (fun H locs hP hD hS => ?_)
          have hP : va_P G vwCl [oX1 aR aT aD o95.2.1, oX4 aD o95.2.2, ai cI (aD 5) 7 (o95.2.2 5), ai cI (aD 6) 7 (o95.2.2 6), ai cI (aD 7) 7 (o95.2.2 7), ai cI (aD 8) 9 (o95.2.2 8), ai cI (aD 9) 9 (o95.2.2 9), ai cI (aD 10) 9 (o95.2.2 10), ai cI (aD 11) 6 (o95.2.2 11), ai cI (aD 12) 6 (o95.2.2 12), ai cI (aD 13) 6 (o95.2.2 13), ai cI aT 200 vt] H := hP
          have hD : va_D A [oX1 aR aT aD o95.2.1, oX4 aD o95.2.2, ai cI (aD 5) 7 (o95.2.2 5), ai cI (aD 6) 7 (o95.2.2 6), ai cI (aD 7) 7 (o95.2.2 7), ai cI (aD 8) 9 (o95.2.2 8), ai cI (aD 9) 9 (o95.2.2 9), ai cI (aD 10) 9 (o95.2.2 10), ai cI (aD 11) 6 (o95.2.2 11), ai cI (aD 12) 6 (o95.2.2 12), ai cI (aD 13) 6 (o95.2.2 13), ai cI aT 200 vt] := hD
          obtain ⟨hg98, h⟩ := grd_some h
          have hres := Option.some.inj h
          subst hres
          exact hRet 98 (bz_n hg98) _ _ _ hP hD hS dX1_readsItem_98
        · have h := (if_neg c14_2).symm.trans h
          by_cases c14_3 : (vR 0 6) = (111 : Int32)
          · have h := (if_pos c14_3).symm.trans h
            refine lv_tableIn (off := 90) (tgt := 104) hx hb dX1_readsItem_14 (by rw [c14_3]; decide) (by rw [c14_3]; decide) (by rw [c14_3]; decide) (by decide) ?_
            refine lv_aload_n hx hb dX1_readsItem_104 rfl (lv_at hl 0 rfl) ?_
            obtain ⟨o105, ho105, h⟩ := bnd_some h
            refine call_VJ (wr := []) (As := []) (rest := []) ⟨hx, hb, hml, hown, hts⟩ (c_X1_readsOff l G cI cZ aR aD aT vR vD vt o105 ho105) (cwV 0 hts gX1_readsItem_X1_readsOff rfl rfl rfl hdV_X1_readsOff ⟨Nat.le_of_ble_eq_true rfl, Nat.le_of_ble_eq_true rfl⟩) hEN hA hP hD hS [0, 1, 2, 3, 4, 5, 6, 7, 8, 9, 10, 11] [] rfl (by decide) rfl (by decide) (by decide) 0 rfl rfl rfl hl.1 rfl (Nat.le_of_ble_eq_true rfl) dX1_readsItem_105 ⟨Nat.le_of_ble_eq_true rfl, Nat.le_of_ble_eq_true rfl⟩ (fun H locs hP hD hS => ?_)
            have hP : va_P G vwCl [oX1 aR aT aD o105.2.1, oX4 aD o105.2.2, ai cI (aD 5) 7 (o105.2.2 5), ai cI (aD 6) 7 (o105.2.2 6), ai cI (aD 7) 7 (o105.2.2 7), ai cI (aD 8) 9 (o105.2.2 8), ai cI (aD 9) 9 (o105.2.2 9), ai cI (aD 10) 9 (o105.2.2 10), ai cI (aD 11) 6 (o105.2.2 11), ai cI (aD 12) 6 (o105.2.2 12), ai cI (aD 13) 6 (o105.2.2 13), ai cI aT 200 vt] H := hP
            have hD : va_D A [oX1 aR aT aD o105.2.1, oX4 aD o105.2.2, ai cI (aD 5) 7 (o105.2.2 5), ai cI (aD 6) 7 (o105.2.2 6), ai cI (aD 7) 7 (o105.2.2 7), ai cI (aD 8) 9 (o105.2.2 8), ai cI (aD 9) 9 (o105.2.2 9), ai cI (aD 10) 9 (o105.2.2 10), ai cI (aD 11) 6 (o105.2.2 11), ai cI (aD 12) 6 (o105.2.2 12), ai cI (aD 13) 6 (o105.2.2 13), ai cI aT 200 vt] := hD
            obtain ⟨hg108, h⟩ := grd_some h
            have hres := Option.some.inj h
            subst hres
            exact hRet 108 (bz_n hg108) _ _ _ hP hD hS dX1_readsItem_108
          · have h := (if_neg c14_3).symm.trans h
            by_cases c14_4 : (vR 0 6) = (112 : Int32)
            · have h := (if_pos c14_4).symm.trans h
              refine lv_tableIn (off := 62) (tgt := 76) hx hb dX1_readsItem_14 (by rw [c14_4]; decide) (by rw [c14_4]; decide) (by rw [c14_4]; decide) (by decide) ?_
              refine lv_aload_n hx hb dX1_readsItem_76 rfl (lv_at hl 0 rfl) ?_
              refine va_get (D := G) (ci := 1) (v := .ref (aD 0)) (C := RX1) (T := TX1) (N := 8) hx hb hts fi_X1_readsItem_X1 hown hEN.1 hP 0 rfl rfl 1 (by decide) (hts (.fieldLink RX1 15 "HourWell$Reader" "world" "LHourWell$World;") (List.mem_of_getElem? (i := 3) rfl)) (fun _ h9 => h9) rfl dX1_readsItem_77 ?_
              obtain ⟨o80, ho80, h⟩ := bnd_some h
              refine call_VJ (wr := [oX1 aR aT aD vR, ai cI aT 200 vt]) (As := []) (rest := []) ⟨hx, hb, hml, hown, hts⟩ (c_X4_addPlace l G cI cZ aD vD o80 ho80) (cwV 0 hts gX1_readsItem_X4_addPlace rfl rfl rfl hdV_X4_addPlace ⟨Nat.le_of_ble_eq_true rfl, Nat.le_of_ble_eq_true rfl⟩) hEN hA hP hD hS [1, 2, 3, 4, 5, 6, 7, 8, 9, 10] [0, 11] rfl (by decide) rfl (by decide) (by decide) 1 rfl rfl rfl hl.1 rfl (Nat.le_of_ble_eq_true rfl) dX1_readsItem_80 ⟨Nat.le_of_ble_eq_true rfl, Nat.le_of_ble_eq_true rfl⟩ (fun H locs hP hD hS => ?_)
              have hP : va_P G vwCl [oX1 aR aT aD vR, ai cI aT 200 vt, oX4 aD o80.2, ai cI (aD 5) 7 (o80.2 5), ai cI (aD 6) 7 (o80.2 6), ai cI (aD 7) 7 (o80.2 7), ai cI (aD 8) 9 (o80.2 8), ai cI (aD 9) 9 (o80.2 9), ai cI (aD 10) 9 (o80.2 10), ai cI (aD 11) 6 (o80.2 11), ai cI (aD 12) 6 (o80.2 12), ai cI (aD 13) 6 (o80.2 13)] H := hP
              have hD : va_D A [oX1 aR aT aD vR, ai cI aT 200 vt, oX4 aD o80.2, ai cI (aD 5) 7 (o80.2 5), ai cI (aD 6) 7 (o80.2 6), ai cI (aD 7) 7 (o80.2 7), ai cI (aD 8) 9 (o80.2 8), ai cI (aD 9) 9 (o80.2 9), ai cI (aD 10) 9 (o80.2 10), ai cI (aD 11) 6 (o80.2 11), ai cI (aD 12) 6 (o80.2 12), ai cI (aD 13) 6 (o80.2 13)] := hD
              obtain ⟨hg83, h⟩ := grd_some h
              have hres := Option.some.inj h
              subst hres
              exact hRet 83 (bz_n hg83) _ _ _ (hP.sub [0, 2, 3, 4, 5, 6, 7, 8, 9, 10, 11, 1] rfl) (hD.sub [0, 2, 3, 4, 5, 6, 7, 8, 9, 10, 11, 1] (by decide) rfl) hS dX1_readsItem_83
            · have h := (if_neg c14_4).symm.trans h
              by_cases c14_5 : (vR 0 6) = (114 : Int32)
              · have h := (if_pos c14_5).symm.trans h
                refine lv_tableIn (off := 70) (tgt := 84) hx hb dX1_readsItem_14 (by rw [c14_5]; decide) (by rw [c14_5]; decide) (by rw [c14_5]; decide) (by decide) ?_
                refine lv_aload_n hx hb dX1_readsItem_84 rfl (lv_at hl 0 rfl) ?_
                obtain ⟨o85, ho85, h⟩ := bnd_some h
                refine call_VJ (wr := []) (As := []) (rest := []) ⟨hx, hb, hml, hown, hts⟩ (c_X1_readsRoad l G cI cZ aR aD aT vR vD vt o85 ho85) (cwV 0 hts gX1_readsItem_X1_readsRoad rfl rfl rfl hdV_X1_readsRoad ⟨Nat.le_of_ble_eq_true rfl, Nat.le_of_ble_eq_true rfl⟩) hEN hA hP hD hS [0, 1, 2, 3, 4, 5, 6, 7, 8, 9, 10, 11] [] rfl (by decide) rfl (by decide) (by decide) 0 rfl rfl rfl hl.1 rfl (Nat.le_of_ble_eq_true rfl) dX1_readsItem_85 ⟨Nat.le_of_ble_eq_true rfl, Nat.le_of_ble_eq_true rfl⟩ (fun H locs hP hD hS => ?_)
                have hP : va_P G vwCl [oX1 aR aT aD o85.2.1, oX4 aD o85.2.2, ai cI (aD 5) 7 (o85.2.2 5), ai cI (aD 6) 7 (o85.2.2 6), ai cI (aD 7) 7 (o85.2.2 7), ai cI (aD 8) 9 (o85.2.2 8), ai cI (aD 9) 9 (o85.2.2 9), ai cI (aD 10) 9 (o85.2.2 10), ai cI (aD 11) 6 (o85.2.2 11), ai cI (aD 12) 6 (o85.2.2 12), ai cI (aD 13) 6 (o85.2.2 13), ai cI aT 200 vt] H := hP
                have hD : va_D A [oX1 aR aT aD o85.2.1, oX4 aD o85.2.2, ai cI (aD 5) 7 (o85.2.2 5), ai cI (aD 6) 7 (o85.2.2 6), ai cI (aD 7) 7 (o85.2.2 7), ai cI (aD 8) 9 (o85.2.2 8), ai cI (aD 9) 9 (o85.2.2 9), ai cI (aD 10) 9 (o85.2.2 10), ai cI (aD 11) 6 (o85.2.2 11), ai cI (aD 12) 6 (o85.2.2 12), ai cI (aD 13) 6 (o85.2.2 13), ai cI aT 200 vt] := hD
                obtain ⟨hg88, h⟩ := grd_some h
                have hres := Option.some.inj h
                subst hres
                exact hRet 88 (bz_n hg88) _ _ _ hP hD hS dX1_readsItem_88
              · have h := (if_neg c14_5).symm.trans h
                by_cases c14_h105 : (vR 0 6) = (105 : Int32)
                · refine lv_tableIn (off := 95) (tgt := 109) hx hb dX1_readsItem_14 (by rw [c14_h105]; decide) (by rw [c14_h105]; decide) (by rw [c14_h105]; decide) (by decide) ?_
                  refine lv_iconst (v := (0 : Int32)) hx hb dX1_readsItem_109 k_iconst_0 ?_
                  have hres := Option.some.inj h
                  subst hres
                  exact hRet 110 nz0 _ _ _ hP hD hS dX1_readsItem_110
                by_cases c14_h106 : (vR 0 6) = (106 : Int32)
                · refine lv_tableIn (off := 95) (tgt := 109) hx hb dX1_readsItem_14 (by rw [c14_h106]; decide) (by rw [c14_h106]; decide) (by rw [c14_h106]; decide) (by decide) ?_
                  refine lv_iconst (v := (0 : Int32)) hx hb dX1_readsItem_109 k_iconst_0 ?_
                  have hres := Option.some.inj h
                  subst hres
                  exact hRet 110 nz0 _ _ _ hP hD hS dX1_readsItem_110
                by_cases c14_h107 : (vR 0 6) = (107 : Int32)
                · refine lv_tableIn (off := 95) (tgt := 109) hx hb dX1_readsItem_14 (by rw [c14_h107]; decide) (by rw [c14_h107]; decide) (by rw [c14_h107]; decide) (by decide) ?_
                  refine lv_iconst (v := (0 : Int32)) hx hb dX1_readsItem_109 k_iconst_0 ?_
                  have hres := Option.some.inj h
                  subst hres
                  exact hRet 110 nz0 _ _ _ hP hD hS dX1_readsItem_110
                by_cases c14_h109 : (vR 0 6) = (109 : Int32)
                · refine lv_tableIn (off := 95) (tgt := 109) hx hb dX1_readsItem_14 (by rw [c14_h109]; decide) (by rw [c14_h109]; decide) (by rw [c14_h109]; decide) (by decide) ?_
                  refine lv_iconst (v := (0 : Int32)) hx hb dX1_readsItem_109 k_iconst_0 ?_
                  have hres := Option.some.inj h
                  subst hres
                  exact hRet 110 nz0 _ _ _ hP hD hS dX1_readsItem_110
                by_cases c14_h110 : (vR 0 6) = (110 : Int32)
                · refine lv_tableIn (off := 95) (tgt := 109) hx hb dX1_readsItem_14 (by rw [c14_h110]; decide) (by rw [c14_h110]; decide) (by rw [c14_h110]; decide) (by decide) ?_
                  refine lv_iconst (v := (0 : Int32)) hx hb dX1_readsItem_109 k_iconst_0 ?_
                  have hres := Option.some.inj h
                  subst hres
                  exact hRet 110 nz0 _ _ _ hP hD hS dX1_readsItem_110
                by_cases c14_h113 : (vR 0 6) = (113 : Int32)
                · refine lv_tableIn (off := 95) (tgt := 109) hx hb dX1_readsItem_14 (by rw [c14_h113]; decide) (by rw [c14_h113]; decide) (by rw [c14_h113]; decide) (by decide) ?_
                  refine lv_iconst (v := (0 : Int32)) hx hb dX1_readsItem_109 k_iconst_0 ?_
                  have hres := Option.some.inj h
                  subst hres
                  exact hRet 110 nz0 _ _ _ hP hD hS dX1_readsItem_110
                refine lv_tableOut (tgt := 109) hx hb dX1_readsItem_14 (by have e103 := lv_neT c14_0 (a := 103) (by decide); have e104 := lv_neT c14_1 (a := 104) (by decide); have e105 := lv_neT c14_h105 (a := 105) (by decide); have e106 := lv_neT c14_h106 (a := 106) (by decide); have e107 := lv_neT c14_h107 (a := 107) (by decide); have e108 := lv_neT c14_2 (a := 108) (by decide); have e109 := lv_neT c14_h109 (a := 109) (by decide); have e110 := lv_neT c14_h110 (a := 110) (by decide); have e111 := lv_neT c14_3 (a := 111) (by decide); have e112 := lv_neT c14_4 (a := 112) (by decide); have e113 := lv_neT c14_h113 (a := 113) (by decide); have e114 := lv_neT c14_5 (a := 114) (by decide);  omega) (by decide) ?_
                refine lv_iconst (v := (0 : Int32)) hx hb dX1_readsItem_109 k_iconst_0 ?_
                have hres := Option.some.inj h
                subst hres
                exact hRet 110 nz0 _ _ _ hP hD hS dX1_readsItem_110
  · have h := (if_neg c5).symm.trans h
    refine lv_iconst (v := (0 : Int32)) hx hb dX1_readsItem_8 k_iconst_0 ?_
    have hres := Option.some.inj h
    subst hres
    exact hRet 9 nz0 _ _ _ hP hD hS dX1_readsItem_9
abbrev rm_X1_readsStop : Room := { frames := 2, cells := 0, slots := 0, locals := 42 }
theorem fi_X1_readsStop_X1 : ∀ w ∈ wsX10, w ∈ wsX1_readsStop := fun _ h => List.mem_cons_of_mem _ (List.mem_append_right _ h)
theorem hdV_X1_readsStop : yX1_readsStop.cls = RX1 ∧ yX1_readsStop.cls ≠ "java/lang/invoke/MethodHandle" ∧ yX1_readsStop.cls ≠ "java/lang/invoke/VarHandle" ∧ (parseMethodDescriptor yX1_readsStop.desc).map (fun d => d.parameters.length) = some 0 := by decide +kernel
set_option maxRecDepth 100000 in
set_option maxHeartbeats 4000000 in
theorem c_X1_readsStop (l : Launch) (G : va_G) (cI cZ : ClassId) (aR : Nat → Nat) (aD : Nat → Nat) (aT : Nat) (vR : Ob) (vt : (Nat → Int32))  (res : Int32 × Ob) (h : m_X1_readsStop vR vt  = some res) : Ct l yX1_readsStop wsX1_readsStop rm_X1_readsStop G cI cZ [.ref (aR 0)] [oX1 aR aT aD vR, ai cI aT 200 vt] (some (.int res.1)) [oX1 aR aT aD res.2, ai cI aT 200 vt] := by
  refine Ct.of_z (maxL := 1) (by decide) rfl (Nat.le_of_ble_eq_true rfl) ?_
  intro p e s m below meth c args hx hb hml hown hts A hA hEN hP hD hS Q hRet ls hl
  have hown : s.vm.findClass RX1 = some m.cls := hown
  have hl : lv_has ls 1 [(0, .ref (aR 0))] := hl
  unfold m_X1_readsStop at h
  refine lv_aload_n hx hb dX1_readsStop_0 rfl (lv_at hl 0 rfl) ?_
  obtain ⟨o1, ho1, h⟩ := bnd_some h
  refine call_VJ (wr := []) (As := []) (rest := []) ⟨hx, hb, hml, hown, hts⟩ (c_X1_readToken l G cI cZ aR aD aT vR vt o1 ho1) (cwV 0 hts gX1_readsStop_X1_readToken rfl rfl rfl hdV_X1_readToken ⟨Nat.le_of_ble_eq_true rfl, Nat.le_of_ble_eq_true rfl⟩) hEN hA hP hD hS [0, 1] [] rfl (by decide) rfl (by decide) (by decide) 0 rfl rfl rfl hl.1 rfl (Nat.le_of_ble_eq_true rfl) dX1_readsStop_1 ⟨Nat.le_of_ble_eq_true rfl, Nat.le_of_ble_eq_true rfl⟩ (fun H locs hP hD hS => ?_)
  have hP : va_P G vwCl [oX1 aR aT aD o1, ai cI aT 200 vt] H := hP
  have hD : va_D A [oX1 aR aT aD o1, ai cI aT 200 vt] := hD
  refine lv_aload_n hx hb dX1_readsStop_4 rfl (lv_at hl 0 rfl) ?_
  refine va_get (D := G) (ci := 1) (v := .int (o1 0 5)) (C := RX1) (T := TX1) (N := 8) hx hb hts fi_X1_readsStop_X1 hown hEN.1 hP 0 rfl rfl 5 (by decide) (hts (.fieldLink RX1 44 "HourWell$Reader" "kind" "I") (List.mem_of_getElem? (i := 1) rfl)) (fun _ h9 => h9) rfl dX1_readsStop_5 ?_
  refine lv_iconst (v := (3 : Int32)) hx hb dX1_readsStop_8 k_iconst_3 ?_
  refine lv_icmp_ne (tgt := 16) hx hb dX1_readsStop_9 (by decide) (fun c9 => ?_) (fun c9 => ?_)
  · have h := (if_neg c9).symm.trans h
    refine lv_iconst (v := (0 : Int32)) hx hb dX1_readsStop_16 k_iconst_0 ?_
    have hres := Option.some.inj h
    subst hres
    exact hRet 17 nz0 _ _ _ hP hD hS dX1_readsStop_17
  · have h := (if_pos c9).symm.trans h
    refine lv_iconst (v := (1 : Int32)) hx hb dX1_readsStop_12 k_iconst_1 ?_
    refine lv_goto (tgt := 17) hx hb dX1_readsStop_13 (by decide) ?_
    have hres := Option.some.inj h
    subst hres
    exact hRet 17 nz1 _ _ _ hP hD hS dX1_readsStop_17
abbrev rm_X1_readTale : Room := { frames := 5, cells := 0, slots := 0, locals := 106 }
theorem fi_X1_readTale_X1 : ∀ w ∈ wsX10, w ∈ wsX1_readTale := fun _ h => List.mem_cons_of_mem _ (List.mem_append_left _ (List.mem_append_right _ h))
theorem fi_X1_readTale_X4 : ∀ w ∈ wsX40, w ∈ wsX1_readTale := fun _ h => List.mem_cons_of_mem _ (List.mem_append_right _ h)
theorem hdV_X1_readTale : yX1_readTale.cls = RX1 ∧ yX1_readTale.cls ≠ "java/lang/invoke/MethodHandle" ∧ yX1_readTale.cls ≠ "java/lang/invoke/VarHandle" ∧ (parseMethodDescriptor yX1_readTale.desc).map (fun d => d.parameters.length) = some 1 := by decide +kernel
set_option maxRecDepth 100000 in
set_option maxHeartbeats 4000000 in
theorem c_X1_readTale (l : Launch) (G : va_G) (cI cZ : ClassId) (aR : Nat → Nat) (aD : Nat → Nat) (aT : Nat) (vR : Ob) (vD : Ob) (vt : (Nat → Int32)) (x1 : Int32) (res : Int32 × Ob × Ob) (h : m_X1_readTale vR vD vt x1 = some res) : Ct l yX1_readTale wsX1_readTale rm_X1_readTale G cI cZ [.ref (aR 0), .int x1] [oX1 aR aT aD vR, oX4 aD vD, ai cI (aD 5) 7 (vD 5), ai cI (aD 6) 7 (vD 6), ai cI (aD 7) 7 (vD 7), ai cI (aD 8) 9 (vD 8), ai cI (aD 9) 9 (vD 9), ai cI (aD 10) 9 (vD 10), ai cI (aD 11) 6 (vD 11), ai cI (aD 12) 6 (vD 12), ai cI (aD 13) 6 (vD 13), ai cI aT 200 vt] (some (.int res.1)) [oX1 aR aT aD res.2.1, oX4 aD res.2.2, ai cI (aD 5) 7 (res.2.2 5), ai cI (aD 6) 7 (res.2.2 6), ai cI (aD 7) 7 (res.2.2 7), ai cI (aD 8) 9 (res.2.2 8), ai cI (aD 9) 9 (res.2.2 9), ai cI (aD 10) 9 (res.2.2 10), ai cI (aD 11) 6 (res.2.2 11), ai cI (aD 12) 6 (res.2.2 12), ai cI (aD 13) 6 (res.2.2 13), ai cI aT 200 vt] := by
  refine Ct.of_i (maxL := 3) (by decide) rfl (Nat.le_of_ble_eq_true rfl) ?_
  intro p e s m below meth c args hx hb hml hown hts A hA hEN hP hD hS Q hRet ls hl
  have hown : s.vm.findClass RX1 = some m.cls := hown
  have hl : lv_has ls 3 [(0, .ref (aR 0)), (1, .int x1)] := hl
  have L32 : ∀ (out : (Int32 × Ob × Ob) ⊕ (Ob × Ob)), (∀ r : Int32 × Ob × Ob, out = Sum.inl r → r = res) → (∀ ex : Ob × Ob, out = Sum.inr ex → ∀ (H : Heap) (locs : List Loc) (ls : Array Slot), va_P G vwCl [oX1 aR aT aD ex.1, oX4 aD ex.2, ai cI (aD 5) 7 (ex.2 5), ai cI (aD 6) 7 (ex.2 6), ai cI (aD 7) 7 (ex.2 7), ai cI (aD 8) 9 (ex.2 8), ai cI (aD 9) 9 (ex.2 9), ai cI (aD 10) 9 (ex.2 10), ai cI (aD 11) 6 (ex.2 11), ai cI (aD 12) 6 (ex.2 12), ai cI (aD 13) 6 (ex.2 13), ai cI aT 200 vt] H → va_D A [oX1 aR aT aD ex.1, oX4 aD ex.2, ai cI (aD 5) 7 (ex.2 5), ai cI (aD 6) 7 (ex.2 6), ai cI (aD 7) 7 (ex.2 7), ai cI (aD 8) 9 (ex.2 8), ai cI (aD 9) 9 (ex.2 9), ai cI (aD 10) 9 (ex.2 10), ai cI (aD 11) 6 (ex.2 11), ai cI (aD 12) 6 (ex.2 12), ai cI (aD 13) 6 (ex.2 13), ai cI aT 200 vt] → va_S A s.heap H locs → lv_has ls 3 [(0, .ref (aR 0))] → W p l e rm_X1_readTale s m args below meth c H locs 0 0 Q (F0 m 80 ls [])) → ∀ (n : Nat) (vR : Ob) (vD : Ob) (x2 : Int32), m_X1_readTale_L32 vt n vR vD x2 = some out → ∀ (H : Heap) (locs : List Loc) (ls : Array Slot), va_P G vwCl [oX1 aR aT aD vR, oX4 aD vD, ai cI (aD 5) 7 (vD 5), ai cI (aD 6) 7 (vD 6), ai cI (aD 7) 7 (vD 7), ai cI (aD 8) 9 (vD 8), ai cI (aD 9) 9 (vD 9), ai cI (aD 10) 9 (vD 10), ai cI (aD 11) 6 (vD 11), ai cI (aD 12) 6 (vD 12), ai cI (aD 13) 6 (vD 13), ai cI aT 200 vt] H → va_D A [oX1 aR aT aD vR, oX4 aD vD, ai cI (aD 5) 7 (vD 5), ai cI (aD 6) 7 (vD 6), ai cI (aD 7) 7 (vD 7), ai cI (aD 8) 9 (vD 8), ai cI (aD 9) 9 (vD 9), ai cI (aD 10) 9 (vD 10), ai cI (aD 11) 6 (vD 11), ai cI (aD 12) 6 (vD 12), ai cI (aD 13) 6 (vD 13), ai cI aT 200 vt] → va_S A s.heap H locs → lv_has ls 3 [(0, .ref (aR 0)), (2, .int x2)] → W p l e rm_X1_readTale s m args below meth c H locs 0 0 Q (F0 m 32 ls []) := by
    intro out hKr hKx
    intro n
    induction n with
    | zero => intro vR vD x2 h; exact nomatch (show (none : Option ((Int32 × Ob × Ob) ⊕ (Ob × Ob))) = some out from h)
    | succ n hrc =>
      intro vR vD x2 h H locs ls hP hD hS hl
      have h : m_X1_readTale_L32B vt (m_X1_readTale_L32 vt n) vR vD x2 = some out := h
      generalize m_X1_readTale_L32 vt n = rc at h hrc
      unfold m_X1_readTale_L32B at h
      refine lv_iload_n hx hb dX1_readTale_32 rfl (lv_at hl 1 rfl) ?_
      refine lv_sipush (v := (200 : Int32)) hx hb dX1_readTale_33 k_sipush_200 ?_
      refine lv_icmp_gt (tgt := 80) hx hb dX1_readTale_36 (by decide) (fun c36 => ?_) (fun c36 => ?_)
      · have h := (if_pos c36).symm.trans h
        exact hKx _ (Option.some.inj h).symm _ _ _ hP hD hS (lv_sub hl [0] rfl)
      · have h := (if_neg c36).symm.trans h
        refine lv_aload_n hx hb dX1_readTale_39 rfl (lv_at hl 0 rfl) ?_
        obtain ⟨o40, ho40, h⟩ := bnd_some h
        refine call_VJ (wr := [oX4 aD vD, ai cI (aD 5) 7 (vD 5), ai cI (aD 6) 7 (vD 6), ai cI (aD 7) 7 (vD 7), ai cI (aD 8) 9 (vD 8), ai cI (aD 9) 9 (vD 9), ai cI (aD 10) 9 (vD 10), ai cI (aD 11) 6 (vD 11), ai cI (aD 12) 6 (vD 12), ai cI (aD 13) 6 (vD 13)]) (As := []) (rest := []) ⟨hx, hb, hml, hown, hts⟩ (c_X1_readToken l G cI cZ aR aD aT vR vt o40 ho40) (cwV 0 hts gX1_readTale_X1_readToken rfl rfl rfl hdV_X1_readToken ⟨Nat.le_of_ble_eq_true rfl, Nat.le_of_ble_eq_true rfl⟩) hEN hA hP hD hS [0, 11] [1, 2, 3, 4, 5, 6, 7, 8, 9, 10] rfl (by decide) rfl (by decide) (by decide) 0 rfl rfl rfl hl.1 rfl (Nat.le_of_ble_eq_true rfl) dX1_readTale_40 ⟨Nat.le_of_ble_eq_true rfl, Nat.le_of_ble_eq_true rfl⟩ (fun H locs hP hD hS => ?_)
        have hP : va_P G vwCl [oX4 aD vD, ai cI (aD 5) 7 (vD 5), ai cI (aD 6) 7 (vD 6), ai cI (aD 7) 7 (vD 7), ai cI (aD 8) 9 (vD 8), ai cI (aD 9) 9 (vD 9), ai cI (aD 10) 9 (vD 10), ai cI (aD 11) 6 (vD 11), ai cI (aD 12) 6 (vD 12), ai cI (aD 13) 6 (vD 13), oX1 aR aT aD o40, ai cI aT 200 vt] H := hP
        have hD : va_D A [oX4 aD vD, ai cI (aD 5) 7 (vD 5), ai cI (aD 6) 7 (vD 6), ai cI (aD 7) 7 (vD 7), ai cI (aD 8) 9 (vD 8), ai cI (aD 9) 9 (vD 9), ai cI (aD 10) 9 (vD 10), ai cI (aD 11) 6 (vD 11), ai cI (aD 12) 6 (vD 12), ai cI (aD 13) 6 (vD 13), oX1 aR aT aD o40, ai cI aT 200 vt] := hD
        refine lv_aload_n hx hb dX1_readTale_43 rfl (lv_at hl 0 rfl) ?_
        refine va_get (D := G) (ci := 1) (v := .int (o40 0 5)) (C := RX1) (T := TX1) (N := 8) hx hb hts fi_X1_readTale_X1 hown hEN.1 hP 10 rfl rfl 5 (by decide) (hts (.fieldLink RX1 44 "HourWell$Reader" "kind" "I") (List.mem_of_getElem? (i := 10) rfl)) (fun _ h9 => h9) rfl dX1_readTale_44 ?_
        refine lv_if_ne (tgt := 52) hx hb dX1_readTale_47 (by decide) (fun c47 => ?_) (fun c47 => ?_)
        · have h := (if_neg c47).symm.trans h
          refine lv_aload_n hx hb dX1_readTale_52 rfl (lv_at hl 0 rfl) ?_
          obtain ⟨o53, ho53, h⟩ := bnd_some h
          refine call_VJ (wr := []) (As := []) (rest := []) ⟨hx, hb, hml, hown, hts⟩ (c_X1_readsItem l G cI cZ aR aD aT o40 vD vt o53 ho53) (cwV 0 hts gX1_readTale_X1_readsItem rfl rfl rfl hdV_X1_readsItem ⟨Nat.le_of_ble_eq_true rfl, Nat.le_of_ble_eq_true rfl⟩) hEN hA hP hD hS [10, 0, 1, 2, 3, 4, 5, 6, 7, 8, 9, 11] [] rfl (by decide) rfl (by decide) (by decide) 10 rfl rfl rfl hl.1 rfl (Nat.le_of_ble_eq_true rfl) dX1_readTale_53 ⟨Nat.le_of_ble_eq_true rfl, Nat.le_of_ble_eq_true rfl⟩ (fun H locs hP hD hS => ?_)
          have hP : va_P G vwCl [oX1 aR aT aD o53.2.1, oX4 aD o53.2.2, ai cI (aD 5) 7 (o53.2.2 5), ai cI (aD 6) 7 (o53.2.2 6), ai cI (aD 7) 7 (o53.2.2 7), ai cI (aD 8) 9 (o53.2.2 8), ai cI (aD 9) 9 (o53.2.2 9), ai cI (aD 10) 9 (o53.2.2 10), ai cI (aD 11) 6 (o53.2.2 11), ai cI (aD 12) 6 (o53.2.2 12), ai cI (aD 13) 6 (o53.2.2 13), ai cI aT 200 vt] H := hP
          have hD : va_D A [oX1 aR aT aD o53.2.1, oX4 aD o53.2.2, ai cI (aD 5) 7 (o53.2.2 5), ai cI (aD 6) 7 (o53.2.2 6), ai cI (aD 7) 7 (o53.2.2 7), ai cI (aD 8) 9 (o53.2.2 8), ai cI (aD 9) 9 (o53.2.2 9), ai cI (aD 10) 9 (o53.2.2 10), ai cI (aD 11) 6 (o53.2.2 11), ai cI (aD 12) 6 (o53.2.2 12), ai cI (aD 13) 6 (o53.2.2 13), ai cI aT 200 vt] := hD
          refine lv_if_eq (tgt := 66) hx hb dX1_readTale_56 (by decide) (fun c56 => ?_) (fun c56 => ?_)
          · have h := (if_pos c56).symm.trans h
            refine lv_bipush (v := (-10 : Int32)) hx hb dX1_readTale_66 k_bipush_n10 ?_
            refine lv_aload_n hx hb dX1_readTale_68 rfl (lv_at hl 0 rfl) ?_
            refine va_get (D := G) (ci := 1) (v := .int (o53.2.1 0 4)) (C := RX1) (T := TX1) (N := 8) hx hb hts fi_X1_readTale_X1 hown hEN.1 hP 0 rfl rfl 4 (by decide) (hts (.fieldLink RX1 54 "HourWell$Reader" "start" "I") (List.mem_of_getElem? (i := 11) rfl)) (fun _ h9 => h9) rfl dX1_readTale_69 ?_
            refine lv_isub hx hb dX1_readTale_72 ?_
            have hres := hKr _ (Option.some.inj h).symm
            subst hres
            exact hRet 73 _ _ _ hP hD hS dX1_readTale_73
          · have h := (if_neg c56).symm.trans h
            refine lv_aload_n hx hb dX1_readTale_59 rfl (lv_at hl 0 rfl) ?_
            obtain ⟨o60, ho60, h⟩ := bnd_some h
            refine call_VJ (wr := [oX4 aD o53.2.2, ai cI (aD 5) 7 (o53.2.2 5), ai cI (aD 6) 7 (o53.2.2 6), ai cI (aD 7) 7 (o53.2.2 7), ai cI (aD 8) 9 (o53.2.2 8), ai cI (aD 9) 9 (o53.2.2 9), ai cI (aD 10) 9 (o53.2.2 10), ai cI (aD 11) 6 (o53.2.2 11), ai cI (aD 12) 6 (o53.2.2 12), ai cI (aD 13) 6 (o53.2.2 13)]) (As := []) (rest := []) ⟨hx, hb, hml, hown, hts⟩ (c_X1_readsStop l G cI cZ aR aD aT o53.2.1 vt o60 ho60) (cwV 0 hts gX1_readTale_X1_readsStop rfl rfl rfl hdV_X1_readsStop ⟨Nat.le_of_ble_eq_true rfl, Nat.le_of_ble_eq_true rfl⟩) hEN hA hP hD hS [0, 11] [1, 2, 3, 4, 5, 6, 7, 8, 9, 10] rfl (by decide) rfl (by decide) (by decide) 0 rfl rfl rfl hl.1 rfl (Nat.le_of_ble_eq_true rfl) dX1_readTale_60 ⟨Nat.le_of_ble_eq_true rfl, Nat.le_of_ble_eq_true rfl⟩ (fun H locs hP hD hS => ?_)
            have hP : va_P G vwCl [oX4 aD o53.2.2, ai cI (aD 5) 7 (o53.2.2 5), ai cI (aD 6) 7 (o53.2.2 6), ai cI (aD 7) 7 (o53.2.2 7), ai cI (aD 8) 9 (o53.2.2 8), ai cI (aD 9) 9 (o53.2.2 9), ai cI (aD 10) 9 (o53.2.2 10), ai cI (aD 11) 6 (o53.2.2 11), ai cI (aD 12) 6 (o53.2.2 12), ai cI (aD 13) 6 (o53.2.2 13), oX1 aR aT aD o60.2, ai cI aT 200 vt] H := hP
            have hD : va_D A [oX4 aD o53.2.2, ai cI (aD 5) 7 (o53.2.2 5), ai cI (aD 6) 7 (o53.2.2 6), ai cI (aD 7) 7 (o53.2.2 7), ai cI (aD 8) 9 (o53.2.2 8), ai cI (aD 9) 9 (o53.2.2 9), ai cI (aD 10) 9 (o53.2.2 10), ai cI (aD 11) 6 (o53.2.2 11), ai cI (aD 12) 6 (o53.2.2 12), ai cI (aD 13) 6 (o53.2.2 13), oX1 aR aT aD o60.2, ai cI aT 200 vt] := hD
            refine lv_if_ne (tgt := 74) hx hb dX1_readTale_63 (by decide) (fun c63 => ?_) (fun c63 => ?_)
            · have h := (if_neg c63).symm.trans h
              refine lv_iinc (v := (x2 + (1 : Int32))) (lv' := [(2, .int (x2 + (1 : Int32))), (0, .ref (aR 0))]) hx hb dX1_readTale_74 hl (k := 1) rfl (congrArg (fun z => x2 + z) k_iconst_1) (by decide) rfl (fun ls hl => ?_)
              refine lv_goto (tgt := 32) hx hb dX1_readTale_77 (by decide) ?_
              exact hrc o60.2 o53.2.2 (x2 + (1 : Int32)) h _ _ _ (hP.sub [10, 0, 1, 2, 3, 4, 5, 6, 7, 8, 9, 11] rfl) (hD.sub [10, 0, 1, 2, 3, 4, 5, 6, 7, 8, 9, 11] (by decide) rfl) hS (lv_sub hl [1, 0] rfl)
            · have h := (if_pos c63).symm.trans h
              refine lv_bipush (v := (-10 : Int32)) hx hb dX1_readTale_66 k_bipush_n10 ?_
              refine lv_aload_n hx hb dX1_readTale_68 rfl (lv_at hl 0 rfl) ?_
              refine va_get (D := G) (ci := 1) (v := .int (o60.2 0 4)) (C := RX1) (T := TX1) (N := 8) hx hb hts fi_X1_readTale_X1 hown hEN.1 hP 10 rfl rfl 4 (by decide) (hts (.fieldLink RX1 54 "HourWell$Reader" "start" "I") (List.mem_of_getElem? (i := 11) rfl)) (fun _ h9 => h9) rfl dX1_readTale_69 ?_
              refine lv_isub hx hb dX1_readTale_72 ?_
              have hres := hKr _ (Option.some.inj h).symm
              subst hres
              exact hRet 73 _ _ _ (hP.sub [10, 0, 1, 2, 3, 4, 5, 6, 7, 8, 9, 11] rfl) (hD.sub [10, 0, 1, 2, 3, 4, 5, 6, 7, 8, 9, 11] (by decide) rfl) hS dX1_readTale_73
        · have h := (if_pos c47).symm.trans h
          refine lv_iload_n hx hb dX1_readTale_50 rfl (lv_at hl 1 rfl) ?_
          have hres := hKr _ (Option.some.inj h).symm
          subst hres
          exact hRet 51 _ _ _ (hP.sub [10, 0, 1, 2, 3, 4, 5, 6, 7, 8, 9, 11] rfl) (hD.sub [10, 0, 1, 2, 3, 4, 5, 6, 7, 8, 9, 11] (by decide) rfl) hS dX1_readTale_51
  unfold m_X1_readTale at h
  refine lv_aload_n hx hb dX1_readTale_0 rfl (lv_at hl 0 rfl) ?_
  refine va_get (D := G) (ci := 1) (v := .ref (aD 0)) (C := RX1) (T := TX1) (N := 8) hx hb hts fi_X1_readTale_X1 hown hEN.1 hP 0 rfl rfl 1 (by decide) (hts (.fieldLink RX1 15 "HourWell$Reader" "world" "LHourWell$World;") (List.mem_of_getElem? (i := 1) rfl)) (fun _ h9 => h9) rfl dX1_readTale_1 ?_
  obtain ⟨o4, ho4, h⟩ := bnd_some h
  refine call_VJ (wr := [oX1 aR aT aD vR, ai cI aT 200 vt]) (As := []) (rest := []) ⟨hx, hb, hml, hown, hts⟩ (c_X4_forgetAll l G cI cZ aD vD o4 ho4) (cwV 0 hts gX1_readTale_X4_forgetAll rfl rfl rfl hdV_X4_forgetAll ⟨Nat.le_of_ble_eq_true rfl, Nat.le_of_ble_eq_true rfl⟩) hEN hA hP hD hS [1, 2, 3, 4, 5, 6, 7, 8, 9, 10] [0, 11] rfl (by decide) rfl (by decide) (by decide) 1 rfl rfl rfl hl.1 rfl (Nat.le_of_ble_eq_true rfl) dX1_readTale_4 ⟨Nat.le_of_ble_eq_true rfl, Nat.le_of_ble_eq_true rfl⟩ (fun H locs hP hD hS => ?_)
  have hP : va_P G vwCl [oX1 aR aT aD vR, ai cI aT 200 vt, oX4 aD o4, ai cI (aD 5) 7 (o4 5), ai cI (aD 6) 7 (o4 6), ai cI (aD 7) 7 (o4 7), ai cI (aD 8) 9 (o4 8), ai cI (aD 9) 9 (o4 9), ai cI (aD 10) 9 (o4 10), ai cI (aD 11) 6 (o4 11), ai cI (aD 12) 6 (o4 12), ai cI (aD 13) 6 (o4 13)] H := hP
  have hD : va_D A [oX1 aR aT aD vR, ai cI aT 200 vt, oX4 aD o4, ai cI (aD 5) 7 (o4 5), ai cI (aD 6) 7 (o4 6), ai cI (aD 7) 7 (o4 7), ai cI (aD 8) 9 (o4 8), ai cI (aD 9) 9 (o4 9), ai cI (aD 10) 9 (o4 10), ai cI (aD 11) 6 (o4 11), ai cI (aD 12) 6 (o4 12), ai cI (aD 13) 6 (o4 13)] := hD
  refine lv_aload_n hx hb dX1_readTale_7 rfl (lv_at hl 0 rfl) ?_
  refine lv_iload_n hx hb dX1_readTale_8 rfl (lv_at hl 1 rfl) ?_
  refine lv_aload_n hx hb dX1_readTale_9 rfl (lv_at hl 0 rfl) ?_
  refine va_get (D := G) (ci := 1) (v := .ref aT) (C := RX1) (T := TX1) (N := 8) hx hb hts fi_X1_readTale_X1 hown hEN.1 hP 0 rfl rfl 0 (by decide) (hts (.fieldLink RX1 9 "HourWell$Reader" "text" "[I") (List.mem_of_getElem? (i := 2) rfl)) (fun _ h9 => h9) rfl dX1_readTale_10 ?_
  refine va_alen (v := (200 : Int32)) hx hb hEN.1 hP 1 0 rfl rfl rfl dX1_readTale_13 ?_
  refine va_mmin hx hb (hml.trans hl.1.symm) hown (hts (.methodLink RX1 24 Lib.Math.min.name) (List.mem_of_getElem? (i := 3) rfl)) (hts (.static Lib.Math.min.name) (List.mem_of_getElem? (i := 4) rfl)) (hts (.initialized "java/lang/Math") (List.mem_of_getElem? (i := 5) rfl)) (hts (.code Lib.Math.min.name Lib.Math.min.code 2 (some .int)) (List.mem_of_getElem? (i := 6) rfl)) (Nat.le_of_ble_eq_true rfl) (Nat.le_of_ble_eq_true rfl) (Nat.le_of_ble_eq_true rfl) (Nat.le_of_ble_eq_true rfl) dX1_readTale_14 ?_
  refine va_put (D := G) (ci := 1) (v := .int (if (200 : Int32) < x1 then (200 : Int32) else x1)) (ty := .int) (C := RX1) (T := TX1) (N := 8) hx hb hts fi_X1_readTale_X1 tyX1 tyX1_ok nmX1 hown hEN.1 hP hD hS 0 rfl rfl 2 (by decide) (hts (.fieldLink RX1 30 "HourWell$Reader" "length" "I") (List.mem_of_getElem? (i := 7) rfl)) (fun _ h9 => h9) rfl (by decide +kernel) rfl rfl (Nat.le_of_ble_eq_true rfl) dX1_readTale_17 (fun H locs hP hD hS => ?_)
  have hP : va_P G vwCl [oX1 aR aT aD (st vR 0 2 (if (200 : Int32) < x1 then (200 : Int32) else x1)), ai cI aT 200 vt, oX4 aD o4, ai cI (aD 5) 7 (o4 5), ai cI (aD 6) 7 (o4 6), ai cI (aD 7) 7 (o4 7), ai cI (aD 8) 9 (o4 8), ai cI (aD 9) 9 (o4 9), ai cI (aD 10) 9 (o4 10), ai cI (aD 11) 6 (o4 11), ai cI (aD 12) 6 (o4 12), ai cI (aD 13) 6 (o4 13)] H := hP
  have hD : va_D A [oX1 aR aT aD (st vR 0 2 (if (200 : Int32) < x1 then (200 : Int32) else x1)), ai cI aT 200 vt, oX4 aD o4, ai cI (aD 5) 7 (o4 5), ai cI (aD 6) 7 (o4 6), ai cI (aD 7) 7 (o4 7), ai cI (aD 8) 9 (o4 8), ai cI (aD 9) 9 (o4 9), ai cI (aD 10) 9 (o4 10), ai cI (aD 11) 6 (o4 11), ai cI (aD 12) 6 (o4 12), ai cI (aD 13) 6 (o4 13)] := hD
  refine lv_aload_n hx hb dX1_readTale_20 rfl (lv_at hl 0 rfl) ?_
  refine lv_iconst (v := (0 : Int32)) hx hb dX1_readTale_21 k_iconst_0 ?_
  refine va_put (D := G) (ci := 1) (v := .int (0 : Int32)) (ty := .int) (C := RX1) (T := TX1) (N := 8) hx hb hts fi_X1_readTale_X1 tyX1 tyX1_ok nmX1 hown hEN.1 hP hD hS 0 rfl rfl 3 (by decide) (hts (.fieldLink RX1 34 "HourWell$Reader" "next" "I") (List.mem_of_getElem? (i := 8) rfl)) (fun _ h9 => h9) rfl (by decide +kernel) rfl rfl (Nat.le_of_ble_eq_true rfl) dX1_readTale_22 (fun H locs hP hD hS => ?_)
  have hP : va_P G vwCl [oX1 aR aT aD (st (st vR 0 2 (if (200 : Int32) < x1 then (200 : Int32) else x1)) 0 3 (0 : Int32)), ai cI aT 200 vt, oX4 aD o4, ai cI (aD 5) 7 (o4 5), ai cI (aD 6) 7 (o4 6), ai cI (aD 7) 7 (o4 7), ai cI (aD 8) 9 (o4 8), ai cI (aD 9) 9 (o4 9), ai cI (aD 10) 9 (o4 10), ai cI (aD 11) 6 (o4 11), ai cI (aD 12) 6 (o4 12), ai cI (aD 13) 6 (o4 13)] H := hP
  have hD : va_D A [oX1 aR aT aD (st (st vR 0 2 (if (200 : Int32) < x1 then (200 : Int32) else x1)) 0 3 (0 : Int32)), ai cI aT 200 vt, oX4 aD o4, ai cI (aD 5) 7 (o4 5), ai cI (aD 6) 7 (o4 6), ai cI (aD 7) 7 (o4 7), ai cI (aD 8) 9 (o4 8), ai cI (aD 9) 9 (o4 9), ai cI (aD 10) 9 (o4 10), ai cI (aD 11) 6 (o4 11), ai cI (aD 12) 6 (o4 12), ai cI (aD 13) 6 (o4 13)] := hD
  refine lv_aload_n hx hb dX1_readTale_25 rfl (lv_at hl 0 rfl) ?_
  refine lv_iconst (v := (0 : Int32)) hx hb dX1_readTale_26 k_iconst_0 ?_
  refine va_put (D := G) (ci := 1) (v := .int (0 : Int32)) (ty := .boolean) (C := RX1) (T := TX1) (N := 8) hx hb hts fi_X1_readTale_X1 tyX1 tyX1_ok nmX1 hown hEN.1 hP hD hS 0 rfl rfl 7 (by decide) (hts (.fieldLink RX1 37 "HourWell$Reader" "isOffTold" "Z") (List.mem_of_getElem? (i := 9) rfl)) (fun _ h9 => h9) rfl (by decide +kernel) rfl rfl (Nat.le_of_ble_eq_true rfl) dX1_readTale_27 (fun H locs hP hD hS => ?_)
  have hP : va_P G vwCl [oX1 aR aT aD (st (st (st vR 0 2 (if (200 : Int32) < x1 then (200 : Int32) else x1)) 0 3 (0 : Int32)) 0 7 (0 : Int32)), ai cI aT 200 vt, oX4 aD o4, ai cI (aD 5) 7 (o4 5), ai cI (aD 6) 7 (o4 6), ai cI (aD 7) 7 (o4 7), ai cI (aD 8) 9 (o4 8), ai cI (aD 9) 9 (o4 9), ai cI (aD 10) 9 (o4 10), ai cI (aD 11) 6 (o4 11), ai cI (aD 12) 6 (o4 12), ai cI (aD 13) 6 (o4 13)] H := hP
  have hD : va_D A [oX1 aR aT aD (st (st (st vR 0 2 (if (200 : Int32) < x1 then (200 : Int32) else x1)) 0 3 (0 : Int32)) 0 7 (0 : Int32)), ai cI aT 200 vt, oX4 aD o4, ai cI (aD 5) 7 (o4 5), ai cI (aD 6) 7 (o4 6), ai cI (aD 7) 7 (o4 7), ai cI (aD 8) 9 (o4 8), ai cI (aD 9) 9 (o4 9), ai cI (aD 10) 9 (o4 10), ai cI (aD 11) 6 (o4 11), ai cI (aD 12) 6 (o4 12), ai cI (aD 13) 6 (o4 13)] := hD
  refine lv_iconst (v := (0 : Int32)) hx hb dX1_readTale_30 k_iconst_0 ?_
  refine lv_istore_n (lv' := [(2, .int (0 : Int32)), (0, .ref (aR 0)), (1, .int x1)]) hx hb dX1_readTale_31 rfl hl (by decide) rfl (fun ls hl => ?_)
  obtain ⟨o32_1, ho32_1, h⟩ := bnd_some h
  refine L32 o32_1 (fun r er => ?_) (fun o32_1x er H locs ls hP hD hS hl => ?_) FU (st (st (st vR 0 2 (if (200 : Int32) < x1 then (200 : Int32) else x1)) 0 3 (0 : Int32)) 0 7 (0 : Int32)) o4 (0 : Int32) ho32_1 _ _ _ (hP.sub [0, 2, 3, 4, 5, 6, 7, 8, 9, 10, 11, 1] rfl) (hD.sub [0, 2, 3, 4, 5, 6, 7, 8, 9, 10, 11, 1] (by decide) rfl) hS (lv_sub hl [1, 0] rfl)
  · subst er
    have h := (sm_l _ _ _).symm.trans h
    exact Option.some.inj h
  · subst er
    have h := (sm_r _ _ _).symm.trans h
    refine lv_bipush (v := (-10 : Int32)) hx hb dX1_readTale_80 k_bipush_n10 ?_
    refine lv_aload_n hx hb dX1_readTale_82 rfl (lv_at hl 0 rfl) ?_
    refine va_get (D := G) (ci := 1) (v := .int (o32_1x.1 0 2)) (C := RX1) (T := TX1) (N := 8) hx hb hts fi_X1_readTale_X1 hown hEN.1 hP 0 rfl rfl 2 (by decide) (hts (.fieldLink RX1 30 "HourWell$Reader" "length" "I") (List.mem_of_getElem? (i := 7) rfl)) (fun _ h9 => h9) rfl dX1_readTale_83 ?_
    refine lv_isub hx hb dX1_readTale_86 ?_
    have hres := Option.some.inj h
    subst hres
    exact hRet 87 _ _ _ hP hD hS dX1_readTale_87
