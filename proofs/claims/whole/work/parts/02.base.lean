/-! The words of the models: an object (with its arrays) is read as a table of ints: row 0 its int fields by slot, row k + 1 the array in slot k. -/
abbrev Ob : Type := Nat → Nat → Int32
def st (E : Ob) (r c : Nat) (v : Int32) : Ob := fun r' => cond (Nat.beq r' r) (upd (E r') c v) (E r')
def upR (E : Ob) (r : Nat) (f : Nat → Int32) : Ob := fun r' => cond (Nat.beq r' r) f (E r')
def FU : Nat := 1000
def inb (i : Int32) (n : Nat) : Bool := !(decide (i < 0) || Nat.ble n i.toNatClampNeg)
def grd {α : Type} (b : Bool) (k : Option α) : Option α := cond b k none
theorem grd_some {α : Type} {b : Bool} {k : Option α} {r : α} (h : grd b k = some r) : b = true ∧ k = some r := by
  cases b with
  | false => cases h
  | true => exact ⟨rfl, h⟩
theorem inb_in {i : Int32} {n : Nat} (h : inb i n = true) : vp_in i n := by
  intro q
  have hb : inb i n = false := by
    unfold inb
    rcases q with q | q
    · simp [q]
    · simp [Nat.ble_eq.mpr q]
  rw [hb] at h
  cases h
theorem bnd_some {α β : Type} {o : Option α} {k : α → Option β} {r : β} (h : o.bind k = some r) : ∃ x, o = some x ∧ k x = some r := by
  cases o with
  | none => cases h
  | some x => exact ⟨x, rfl, h⟩
theorem dec_t {P : Prop} {i : Decidable P} (h : decide P = true) : P := of_decide_eq_true h
theorem sm_l {α β γ : Type} (f : α → γ) (g : β → γ) (x : α) : Sum.elim f g (Sum.inl x) = f x := rfl
theorem sm_r {α β γ : Type} (f : α → γ) (g : β → γ) (x : β) : Sum.elim f g (Sum.inr x) = g x := rfl
/-- the nest links that the tables have -/
def nestQ : List (String × Nat × MethodName) := [(RX5, 19, yX4_init), (RX5, 38, yX2_init), (RX5, 60, yX0_init), (RX0, 34, yX5_isWithin), (RX1, 121, yX5_isWithin), (RX1, 95, yX5_isThing), (RX2, 43, yX5_isWithin), (RX3, 208, yX5_isThing), (RX3, 86, yX5_hasThing), (RX4, 58, yX5_isWithin), (RX4, 86, yX5_hasThing), (RX4, 89, yX5_isThing)]
def nestC (q : String × Nat × MethodName) : Cond := .methodLinkNest q.1 q.2.1 q.2.2 RX5
def fHav : Nat → Int32 := fun k => match k with
  | 0 => -1431655766
  | 1 => -858993460
  | 2 => -252645136
  | 3 => -16711936
  | _ => -65536
/-- what every method is given of its surroundings: classes and arrays as the tables have them, the nest links, the constant array outside of all that is written -/
def EN (G : va_G) (cI cZ : ClassId) (A : Nat → Prop) (U : State) : Prop := va_K G vwCl [(cI, .int), (cZ, .boolean)] U ∧ (∀ q ∈ nestQ, va_Nw (nestC q) U) ∧ ∃ aH : Nat, va_Z RX3 "HAVING" "[I" (.ref aH) A U U.heap ∧ va_T .int aH 5 (fun j => .int (fHav j)) A U U.heap
theorem EN.to {G : va_G} {cI cZ : ClassId} {A A' : Nat → Prop} {s U : State} {H : Heap} {locs : List Loc} (h : EN G cI cZ A s) (hS : va_S A s.heap H locs) (hU : U.heap = H) (hW : s.WarmedH U.vm) (hA : ∀ q, A' q → A q) : EN G cI cZ A' U := by
  obtain ⟨hK, hN, aH, hZ, hX⟩ := h
  subst hU
  exact ⟨va_K.moved hW.alike hK, fun q hq => va_Nw.warmM hW (hN q hq), aH, ((hZ.kept (fun a h1 h2 => hS.2.1 a h1 h2)).moved hW.alike).narrow hA, ((hX.kept (fun a h1 h2 => hS.2.1 a h1 h2)).moved hW.alike).narrow hA⟩
theorem EN.blind {G : va_G} {cI cZ : ClassId} {A : Nat → Prop} {U : State} (h : EN G cI cZ A U) (g : JFrame) (mk : MethodId) (a : Array Value) : EN G cI cZ A (U.calling g mk a) := by
  obtain ⟨hK, hN, aH, hZ, hX⟩ := h
  exact ⟨va_K.moved (Vm.Alike.refl U.vm) hK, fun q hq => va_Nw.same (u := U) rfl rfl (hN q hq), aH, va_Z.moved (u := U) (Vm.Alike.refl U.vm) hZ, va_T.moved (u := U) (Vm.Alike.refl U.vm) hX⟩
def CtQ (G : va_G) (r : Option Value) (w1 : va_W) (A : Nat → Prop) : Array Value → State → Outcome → State → Prop := fun _ st oc t => (oc = .returned r ∧ va_P G vwCl w1 t.heap ∧ va_D A w1) ∧ va_F A st t
def CtP (G : va_G) (cI cZ : ClassId) (av : List Value) (w0 : va_W) (sz : Nat) : Array Value → State → Prop := va_Pc av (fun U => U.heap.size = sz ∧ va_P G vwCl w0 U.heap ∧ EN G cI cZ (va_A w0 sz) U ∧ va_D (fun _ => True) w0)
/-- A CONTRACT: from the cells w0, called with av, the method answers r and leaves the cells w1; nothing else changes, nothing is made -/
def Ct (l : Launch) (y : MethodName) (ws : List Cond) (rm : Room) (G : va_G) (cI cZ : ClassId) (av : List Value) (w0 : va_W) (r : Option Value) (w1 : va_W) : Prop := ∀ sz : Nat, Met l y ws rm (CtP G cI cZ av w0 sz) (CtQ G r w1 (va_A w0 sz)) 0 0 (va_A w0 sz)
theorem CtP.blind {G : va_G} {cI cZ : ClassId} {av : List Value} {w0 : va_W} {sz : Nat} : FrameBlind (CtP G cI cZ av w0 sz) := by
  intro a U g mk h
  obtain ⟨q0, q1, q2, q3, q4⟩ := h
  exact ⟨q0, q1, q2, q3.blind g mk a, q4⟩
theorem Met.ofWF {l : Launch} {y : MethodName} {ws ws' : List Cond} {rm : Room} {Pc : Array Value → State → Prop} {Qc : Array Value → State → Outcome → State → Prop} {mc ms : Nat} {free : Addr → Prop} {cc : ByteArray} {maxL : Nat} {ret : Option FieldType}
    (hy : plainFor y = true) (hw : ws = Cond.code y cc maxL ret :: ws')
    (body : ∀ p e s m args below meth c s₁, BodyLoose p l y (headSpec ws rm) cc maxL ret e s m args below meth c s₁ → c.maxLocals = maxL → Pc args s →
      W p l e (headSpec ws rm).room s m args below meth c s.heap [] 0 0 (MQ below Qc args s mc ms free) (entryFrame m args maxL)) : Met l y ws rm Pc Qc mc ms free := by
  refine MetFree.of_bodySF (code := cc) (maxLocals := maxL) (ret := ret) hy ?_ ?_
  · intro args s m h hn
    obtain ⟨meth, c, h1, h2, h3, h4, h5, h6, -, -⟩ := Cond.code_spec hn (atoms_spec (ws := ws) h _ (by rw [hw]; exact List.mem_cons_self))
    exact ⟨meth, c, h1, h2, h3, h4, h5, h6⟩
  · intro p e s m args below meth c s₁ B hml hP _
    have hh0 : s₁.heap = s.heap := by rw [B.state]; rfl
    obtain ⟨t, a1, o, b1, b2, b3⟩ := body p e s m args below meth c s₁ B hml hP s₁ hh0 (Stand.of_body B)
    exact ⟨t, o, a1, b1, b2, ⟨b3.1, b3.2⟩⟩
theorem Ct.ofW {l : Launch} {y : MethodName} {ws ws' : List Cond} {rm : Room} {G : va_G} {cI cZ : ClassId} {av : List Value} {w0 w1 : va_W} {r : Option Value} {cc : ByteArray} {maxL : Nat} {ret : Option FieldType} (hy : plainFor y = true) (hw : ws = Cond.code y cc maxL ret :: ws') (hlen : (lg_sl av).length ≤ maxL)
    (body : ∀ (p : Program) (e : Env) (s : State) (m : MethodId) (below : List Frame) (meth : Method) (c : Code), p.tables.exec = Jvm.exec → c.code = cc → meth.sig.returnType = ret → c.maxLocals = maxL → s.vm.findClass y.cls = some m.cls → (∀ w ∈ ws, w.before av.toArray s = true) → meth.locks = false → ∀ A : Nat → Prop, (∀ q, s.heap.size ≤ q → A q) → EN G cI cZ A s → va_P G vwCl w0 s.heap → va_D A w0 → va_S A s.heap s.heap [] → ∀ ls : Array Slot, lv_has ls maxL (lv_args 0 av) → W p l e rm s m av.toArray below meth c s.heap [] 0 0 (MQ below (CtQ G r w1 A) av.toArray s 0 0 A) (F0 m 0 ls [])) : Ct l y ws rm G cI cZ av w0 r w1 := by
  intro sz
  refine Met.ofWF (cc := cc) (maxL := maxL) (ret := ret) hy hw ?_
  intro p e s m args below meth c s₁ B hml hv
  obtain ⟨rfl, hsz, hP, hE, hD0⟩ := hv
  subst hsz
  have hl := lv_entry av (n := maxL) hlen
  rw [lg_entry_eq]
  exact body p e s m below meth c B.exec B.bytes B.returns hml (findClass_of_methodNamed B.named) (atoms_spec (ws := ws) B.pre) B.notSynchronized _ (fun q h => Or.inr h) hE hP hD0.self va_S.rf _ hl
theorem ct_iret {p : Program} {l : Launch} {e : Env} {R : Room} {s : State} {m : MethodId} {args : Array Value} {below : List Frame} {meth : Method} {c : Code} {H : Heap} {locs : List Loc} {G : va_G} {w1 : va_W} {A : Nat → Prop} {cc : ByteArray} {v : Int32} {pc : Nat} {ls : Array Slot} (hx : p.tables.exec = Jvm.exec) (hb : c.code = cc) (hr : meth.sig.returnType = some .int) (hlocks : meth.locks = false) (hP : va_P G vwCl w1 H) (hD : va_D A w1) (hS : va_S A s.heap H locs) (hdg : decode cc pc = .ok (.ireturn, 1)) : W p l e R s m args below meth c H locs 0 0 (MQ below (CtQ G (some (.int v)) w1 A) args s 0 0 A) (F0 m pc ls [.int v]) :=
  W.iret hx hb hr (fun t ht _ => ⟨⟨rfl, by rw [ht]; exact hP, hD⟩, hS.F ht⟩) hS.2.2 hdg hlocks
theorem ct_zret {p : Program} {l : Launch} {e : Env} {R : Room} {s : State} {m : MethodId} {args : Array Value} {below : List Frame} {meth : Method} {c : Code} {H : Heap} {locs : List Loc} {G : va_G} {w1 : va_W} {A : Nat → Prop} {cc : ByteArray} {v : Int32} {pc : Nat} {ls : Array Slot} (hx : p.tables.exec = Jvm.exec) (hb : c.code = cc) (hr : meth.sig.returnType = some .boolean) (hlocks : meth.locks = false) (hn : narrow .boolean (.int v) = .int v) (hP : va_P G vwCl w1 H) (hD : va_D A w1) (hS : va_S A s.heap H locs) (hdg : decode cc pc = .ok (.ireturn, 1)) : W p l e R s m args below meth c H locs 0 0 (MQ below (CtQ G (some (.int v)) w1 A) args s 0 0 A) (F0 m pc ls [.int v]) :=
  W.zret hx hb hr hn (fun t ht _ => ⟨⟨rfl, by rw [ht]; exact hP, hD⟩, hS.F ht⟩) hS.2.2 hdg hlocks
theorem ct_lret {p : Program} {l : Launch} {e : Env} {R : Room} {s : State} {m : MethodId} {args : Array Value} {below : List Frame} {meth : Method} {c : Code} {H : Heap} {locs : List Loc} {G : va_G} {w1 : va_W} {A : Nat → Prop} {cc : ByteArray} {v : Int64} {pc : Nat} {ls : Array Slot} (hx : p.tables.exec = Jvm.exec) (hb : c.code = cc) (hr : meth.sig.returnType = some .long) (hlocks : meth.locks = false) (hP : va_P G vwCl w1 H) (hD : va_D A w1) (hS : va_S A s.heap H locs) (hdg : decode cc pc = .ok (.lreturn, 1)) : W p l e R s m args below meth c H locs 0 0 (MQ below (CtQ G (some (.long v)) w1 A) args s 0 0 A) (F0 m pc ls [.long v]) :=
  W.lret hx hb hr (fun t ht _ => ⟨⟨rfl, by rw [ht]; exact hP, hD⟩, hS.F ht⟩) hS.2.2 hdg hlocks
theorem ct_vret {p : Program} {l : Launch} {e : Env} {R : Room} {s : State} {m : MethodId} {args : Array Value} {below : List Frame} {meth : Method} {c : Code} {H : Heap} {locs : List Loc} {G : va_G} {w1 : va_W} {A : Nat → Prop} {cc : ByteArray} {pc : Nat} {ls : Array Slot} (hx : p.tables.exec = Jvm.exec) (hb : c.code = cc) (hr : meth.sig.returnType = none) (hlocks : meth.locks = false) (hP : va_P G vwCl w1 H) (hD : va_D A w1) (hS : va_S A s.heap H locs) (hdg : decode cc pc = .ok (.return_, 1)) : W p l e R s m args below meth c H locs 0 0 (MQ below (CtQ G none w1 A) args s 0 0 A) (F0 m pc ls []) :=
  W.vret hx hb hr (fun t ht _ => ⟨⟨rfl, by rw [ht]; exact hP, hD⟩, hS.F ht⟩) hS.2.2 hdg hlocks
theorem ct_aret {p : Program} {l : Launch} {e : Env} {R : Room} {s : State} {m : MethodId} {args : Array Value} {below : List Frame} {meth : Method} {c : Code} {H : Heap} {locs : List Loc} {G : va_G} {w1 : va_W} {A : Nat → Prop} {cc : ByteArray} {a : Nat} {rt : String} {pc : Nat} {ls : Array Slot} (hx : p.tables.exec = Jvm.exec) (hb : c.code = cc) (hr : meth.sig.returnType = some (.object rt)) (hlocks : meth.locks = false) (hP : va_P G vwCl w1 H) (hD : va_D A w1) (hS : va_S A s.heap H locs) (hdg : decode cc pc = .ok (.areturn, 1)) : W p l e R s m args below meth c H locs 0 0 (MQ below (CtQ G (some (.ref a)) w1 A) args s 0 0 A) (F0 m pc ls [.ref a]) :=
  W.aret hx hb hr (Or.inl ⟨_, rfl⟩) (Or.inr ⟨_, rfl⟩) (fun t ht _ => ⟨⟨rfl, by rw [ht]; exact hP, hD⟩, hS.F ht⟩) hS.2.2 hdg hlocks
/-- cells put back in their places -/
def updC (ws : va_W) : List Nat → va_W → va_W
  | i :: is, x :: xs => updC (ws.set i x) is xs
  | _, _ => ws
theorem updC_get : ∀ (is : List Nat) (xs ws : va_W) (k : Nat) (q : Nat × va_E), va_nd is = true → is.length = xs.length → (updC ws is xs)[k]? = some q → (∃ j : Nat, is[j]? = some k ∧ xs[j]? = some q) ∨ (k ∉ is ∧ ws[k]? = some q)
  | [], xs, ws, k, q, _, _, h => Or.inr ⟨List.not_mem_nil, by cases xs <;> exact h⟩
  | i :: is, [], ws, k, q, _, hl, h => by simp at hl
  | i :: is, x :: xs, ws, k, q, hn, hl, h => by
    simp only [va_nd, Bool.and_eq_true, decide_eq_true_eq] at hn
    rcases updC_get is xs (ws.set i x) k q hn.2 (by simpa using hl) h with ⟨j, h1, h2⟩ | ⟨h1, h2⟩
    · exact Or.inl ⟨j + 1, by simpa using h1, by simpa using h2⟩
    · by_cases hk : i = k
      · subst hk
        have hlt : i < (ws.set i x).length := (List.getElem?_eq_some_iff.mp h2).1
        rw [List.getElem?_set_self (by simpa using hlt)] at h2
        exact Or.inl ⟨0, by simp, by simpa using h2⟩
      · rw [List.getElem?_set_ne hk] at h2
        exact Or.inr ⟨by simp only [List.mem_cons, not_or]; exact ⟨fun z => hk z.symm, h1⟩, h2⟩
theorem callK {p : Program} {l : Launch} {e : Env} {R : Room} {s : State} {m : MethodId} {args : Array Value} {below : List Frame} {meth : Method} {c : Code} {H : Heap} {locs : List Loc} {cells slots : Nat} {Q : State → Prop} {G : va_G} {A : Nat → Prop} {ws wc w1 : va_W} {r : Option Value} {pc : Nat} {ls : Array Slot} {st0 rest : List Value} {a : Array Value}
    (hr : va_Run p l e R s m args below meth c H locs cells slots 0 0 (F0 m pc ls st0) rest (CtQ G r w1 (va_A wc H.size) a) (va_A wc H.size)) (hA : ∀ q, s.heap.size ≤ q → A q) (hP : va_P G vwCl ws H) (hD : va_D A ws) (hS : va_S A s.heap H locs) (isC : List Nat) (hC : isC.map (fun i => ws[i]?) = wc.map some) (hnC : va_nd isC = true) (hadr : wc.map (·.1) = w1.map (·.1))
    (kk : ∀ (H1 : Heap) (locs1 : List Loc), va_P G vwCl (updC ws isC w1) H1 → va_D A (updC ws isC w1) → va_S A s.heap H1 locs1 → W p l e R s m args below meth c H1 locs1 cells slots Q (F0 m (pc + 3) ls (r.toList ++ rest))) : W p l e R s m args below meth c H locs cells slots Q (F0 m pc ls st0) := by
  intro T hT X
  obtain ⟨v, st₀, t, T', L, h0, X', hL, e1, -, ⟨⟨hv, hP1, hD1⟩, hF⟩, sg⟩ := hr T hT X
  cases hv
  subst h0
  have hfr := va_free hD hS hA isC hC
  have hlen : isC.length = w1.length := by
    have h1 := congrArg List.length hC
    have h2 := congrArg List.length hadr
    simp only [List.length_map] at h1 h2
    exact h1.trans h2
  have at' : ∀ (j k : Nat) (q : Nat × va_E), isC[j]? = some k → wc[j]? = some q → ws[k]? = some q := by
    intro j k q h1 h2
    have h3 : (isC.map (fun i => ws[i]?))[j]? = some (some q) := by rw [hC, List.getElem?_map, h2]; rfl
    rw [List.getElem?_map, h1] at h3
    exact Option.some.inj h3
  have same : ∀ (k : Nat) (q : Nat × va_E), (updC ws isC w1)[k]? = some q → ∃ q0, ws[k]? = some q0 ∧ q0.1 = q.1 := by
    intro k q hk
    rcases updC_get isC w1 ws k q hnC hlen hk with ⟨j, h1, h2⟩ | ⟨-, h2⟩
    · have h3 : (wc.map (·.1))[j]? = some q.1 := by rw [hadr, List.getElem?_map, h2]; rfl
      rw [List.getElem?_map] at h3
      cases hw : wc[j]? with
      | none => rw [hw] at h3; cases h3
      | some z => rw [hw] at h3; exact ⟨z, at' j k z h1 hw, Option.some.inj h3⟩
    · exact ⟨q, h2, rfl⟩
  have hPn : va_P G vwCl (updC ws isC w1) t.heap := by
    intro k q hk
    rcases updC_get isC w1 ws k q hnC hlen hk with ⟨j, h1, h2⟩ | ⟨h1, h2⟩
    · exact hP1 j q h2
    · have hlt := (hP k q h2).lt
      refine (hP k q h2).kept (hF.2 q.1 hlt (fun h => ?_))
      rcases h with ⟨k2, e2, h⟩ | h
      · have h3 : (isC.map (fun i => ws[i]?))[k2]? = some (some (q.1, e2)) := by rw [hC, List.getElem?_map, h]; rfl
        rw [List.getElem?_map] at h3
        cases hi : isC[k2]? with
        | none => rw [hi] at h3; cases h3
        | some i =>
          rw [hi] at h3
          have hij := hD.1 k i q (q.1, e2) h2 (Option.some.inj h3) rfl
          subst hij
          exact h1 (List.mem_of_getElem? hi)
      · omega
  have hDn : va_D A (updC ws isC w1) := by
    refine ⟨fun i j x y hi hj hxy => ?_, fun k q hk => ?_⟩
    · obtain ⟨x0, h1, h2⟩ := same i x hi
      obtain ⟨y0, h3, h4⟩ := same j y hj
      exact hD.1 i j x0 y0 h1 h3 (h2.trans (hxy.trans h4.symm))
    · obtain ⟨q0, h1, h2⟩ := same k q hk
      rw [← h2]
      exact hD.2 k q0 h1
  have hSn : va_S A s.heap t.heap (locs ++ L) := by
    refine ⟨Nat.le_trans hS.1 hF.1, fun q h1 h2 => ?_, fun q hq => ?_⟩
    · rw [hF.2 q (Nat.lt_of_lt_of_le h1 hS.1) (fun z => h2 (hfr q z)), hS.2.1 q h1 h2]
    · rcases List.mem_append.mp hq with h | h
      · exact hS.2.2 q h
      · exact hfr _ (hL q h)
  obtain ⟨t2, a1, b1⟩ := kk t.heap (locs ++ L) hPn hDn hSn T' e1 X'
  exact ⟨t2, sg t2 a1, b1⟩
theorem preS {l : Launch} {s : State} {G : va_G} {cI cZ : ClassId} {A : Nat → Prop} {ws wc : va_W} {H : Heap} {locs : List Loc} {As : List Value} (hEN : EN G cI cZ A s) (hA : ∀ q, s.heap.size ≤ q → A q) (hP : va_P G vwCl ws H) (hD : va_D A ws) (hS : va_S A s.heap H locs) (isC : List Nat) (hC : isC.map (fun i => ws[i]?) = wc.map some) (hnC : va_nd isC = true) : PreS s H (CtP G cI cZ As wc H.size) As := by
  refine ⟨CtP.blind, fun U hU hW => ⟨rfl, by rw [hU], ?_, hEN.to hS hU hW (va_free hD hS hA isC hC), (hD.sub isC hnC hC).weaken (fun _ _ _ _ => trivial)⟩⟩
  rw [hU]
  intro k q hk
  have h3 : (isC.map (fun i => ws[i]?))[k]? = some (some q) := by rw [hC, List.getElem?_map, hk]; rfl
  rw [List.getElem?_map] at h3
  cases hi : isC[k]? with
  | none => rw [hi] at h3; cases h3
  | some i => rw [hi] at h3; exact hP i q (Option.some.inj h3)
theorem call_V {p : Program} {l : Launch} {e : Env} {R : Room} {s : State} {m : MethodId} {args : Array Value} {below : List Frame} {meth : Method} {c : Code} {H : Heap} {locs : List Loc} {cells slots : Nat} {Q : State → Prop} {G : va_G} {cI cZ : ClassId} {A : Nat → Prop} {ws wc w1 : va_W} {r : Option Value} {pc : Nat} {ls : Array Slot} {st0 rest As : List Value} {Ts ws1 : List Cond} {cc bytes : ByteArray} {nL maxL index n : Nat} {own C : String} {y : MethodName} {ret : Option FieldType} {rm : Room} {b ci N : Nat} {T : u_T} {fs : List Value}
    (S : CallFix p m c cc nL s args Ts own) (hM : Ct l y ws1 rm G cI cZ (.ref b :: As) wc r w1) (cw : CallW R s args own C index y bytes maxL ret ws1 rm 0 0 n) (hEN : EN G cI cZ A s) (hA : ∀ q, s.heap.size ≤ q → A q) (hP : va_P G vwCl ws H) (hD : va_D A ws) (hS : va_S A s.heap H locs) (isC : List Nat) (hC : isC.map (fun i => ws[i]?) = wc.map some) (hnC : va_nd isC = true) (hadr : wc.map (·.1) = w1.map (·.1)) (q0 : Nat) (he : ws[q0]? = some (b, .inr (ci, fs))) (hc : vwCl[ci]? = some (C, T, N)) (hn : As.length = n) (hsize : ls.size = nL) (hstack : st0 = As.reverse ++ .ref b :: rest) (hW : (rest.map fun v => v.category).sum ≤ 8) (hdg : decode cc pc = .ok (.invokevirtual index, 3)) (hf : cells + 0 ≤ R.cells ∧ slots + 0 ≤ R.slots)
    (kk : ∀ (H1 : Heap) (locs1 : List Loc), va_P G vwCl (updC ws isC w1) H1 → va_D A (updC ws isC w1) → va_S A s.heap H1 locs1 → W p l e R s m args below meth c H1 locs1 cells slots Q (F0 m (pc + 3) ls (r.toList ++ rest))) : W p l e R s m args below meth c H locs cells slots Q (F0 m pc ls st0) :=
  callK (va_runV S (hM H.size) cw ⟨CtP.blind, va_recv hEN.1 hP hc he, (preS (l := l) hEN hA hP hD hS isC hC hnC).2⟩ rfl hn hsize hstack (lv_room hW) hdg hf) hA hP hD hS isC hC hnC hadr kk
theorem call_S {p : Program} {l : Launch} {e : Env} {R : Room} {s : State} {m : MethodId} {args : Array Value} {below : List Frame} {meth : Method} {c : Code} {H : Heap} {locs : List Loc} {cells slots : Nat} {Q : State → Prop} {G : va_G} {cI cZ : ClassId} {A : Nat → Prop} {ws wc w1 : va_W} {r : Option Value} {pc : Nat} {ls : Array Slot} {st0 rest As : List Value} {Ts ws1 : List Cond} {cc bytes : ByteArray} {nL maxL index n : Nat} {own : String} {y : MethodName} {ret : Option FieldType} {rm : Room}
    (S : CallFix p m c cc nL s args Ts own) (hM : Ct l y ws1 rm G cI cZ As wc r w1) (cw : CallB R s args own index y bytes maxL ret ws1 rm 0 0 n ∧ (Cond.static y).before args s = true) (hEN : EN G cI cZ A s) (hA : ∀ q, s.heap.size ≤ q → A q) (hP : va_P G vwCl ws H) (hD : va_D A ws) (hS : va_S A s.heap H locs) (isC : List Nat) (hC : isC.map (fun i => ws[i]?) = wc.map some) (hnC : va_nd isC = true) (hadr : wc.map (·.1) = w1.map (·.1)) (hn : As.length = n) (hsize : ls.size = nL) (hstack : st0 = As.reverse ++ rest) (hW : (rest.map fun v => v.category).sum ≤ 8) (hdg : decode cc pc = .ok (.invokestatic index, 3)) (hf : cells + 0 ≤ R.cells ∧ slots + 0 ≤ R.slots)
    (kk : ∀ (H1 : Heap) (locs1 : List Loc), va_P G vwCl (updC ws isC w1) H1 → va_D A (updC ws isC w1) → va_S A s.heap H1 locs1 → W p l e R s m args below meth c H1 locs1 cells slots Q (F0 m (pc + 3) ls (r.toList ++ rest))) : W p l e R s m args below meth c H locs cells slots Q (F0 m pc ls st0) :=
  callK (va_runS S (hM H.size) cw (preS (l := l) hEN hA hP hD hS isC hC hnC) rfl hn hsize hstack (lv_room hW) hdg hf) hA hP hD hS isC hC hnC hadr kk
theorem call_SN {p : Program} {l : Launch} {e : Env} {R : Room} {s : State} {m : MethodId} {args : Array Value} {below : List Frame} {meth : Method} {c : Code} {H : Heap} {locs : List Loc} {cells slots : Nat} {Q : State → Prop} {G : va_G} {cI cZ : ClassId} {A : Nat → Prop} {ws wc w1 : va_W} {r : Option Value} {pc : Nat} {ls : Array Slot} {st0 rest As : List Value} {Ts ws1 : List Cond} {cc bytes : ByteArray} {nL maxL index n : Nat} {own host : String} {y : MethodName} {ret : Option FieldType} {rm : Room}
    (S : CallFix p m c cc nL s args Ts own) (hM : Ct l y ws1 rm G cI cZ As wc r w1) (cw : va_CN R s args own index y host bytes maxL ret ws1 rm 0 0 n ∧ (Cond.static y).before args s = true ∧ True) (hEN : EN G cI cZ A s) (hA : ∀ q, s.heap.size ≤ q → A q) (hP : va_P G vwCl ws H) (hD : va_D A ws) (hS : va_S A s.heap H locs) (isC : List Nat) (hC : isC.map (fun i => ws[i]?) = wc.map some) (hnC : va_nd isC = true) (hadr : wc.map (·.1) = w1.map (·.1)) (hn : As.length = n) (hsize : ls.size = nL) (hstack : st0 = As.reverse ++ rest) (hW : (rest.map fun v => v.category).sum ≤ 8) (hdg : decode cc pc = .ok (.invokestatic index, 3)) (hf : cells + 0 ≤ R.cells ∧ slots + 0 ≤ R.slots)
    (kk : ∀ (H1 : Heap) (locs1 : List Loc), va_P G vwCl (updC ws isC w1) H1 → va_D A (updC ws isC w1) → va_S A s.heap H1 locs1 → W p l e R s m args below meth c H1 locs1 cells slots Q (F0 m (pc + 3) ls (r.toList ++ rest))) : W p l e R s m args below meth c H locs cells slots Q (F0 m pc ls st0) :=
  callK (va_runSN S (hM H.size) cw (preS (l := l) hEN hA hP hD hS isC hC hnC) rfl hn hsize hstack (lv_room hW) hdg hf) hA hP hD hS isC hC hnC hadr kk
theorem updC_self : ∀ (is : List Nat) (wc ws : va_W), is.map (fun i => ws[i]?) = wc.map some → updC ws is wc = ws
  | [], [], ws, _ => rfl
  | [], _ :: _, ws, h => by simp at h
  | _ :: _, [], ws, h => by simp at h
  | i :: is, x :: xs, ws, h => by
    simp only [List.map_cons, List.cons.injEq] at h
    have h1 : ws.set i x = ws := by
      apply List.ext_getElem?
      intro k
      by_cases hk : i = k
      · subst hk
        rw [List.getElem?_set_self (List.getElem?_eq_some_iff.mp h.1).1, h.1]
      · rw [List.getElem?_set_ne hk]
    show updC (ws.set i x) is xs = ws
    rw [h1]
    exact updC_self is xs ws h.2
theorem call_V0 {p : Program} {l : Launch} {e : Env} {R : Room} {s : State} {m : MethodId} {args : Array Value} {below : List Frame} {meth : Method} {c : Code} {H : Heap} {locs : List Loc} {cells slots : Nat} {Q : State → Prop} {G : va_G} {cI cZ : ClassId} {A : Nat → Prop} {ws wc : va_W} {r : Option Value} {pc : Nat} {ls : Array Slot} {st0 rest As : List Value} {Ts ws1 : List Cond} {cc bytes : ByteArray} {nL maxL index n : Nat} {own C : String} {y : MethodName} {ret : Option FieldType} {rm : Room} {b ci N : Nat} {T : u_T} {fs : List Value}
    (S : CallFix p m c cc nL s args Ts own) (hM : Ct l y ws1 rm G cI cZ (.ref b :: As) wc r wc) (cw : CallW R s args own C index y bytes maxL ret ws1 rm 0 0 n) (hEN : EN G cI cZ A s) (hA : ∀ q, s.heap.size ≤ q → A q) (hP : va_P G vwCl ws H) (hD : va_D A ws) (hS : va_S A s.heap H locs) (isC : List Nat) (hC : isC.map (fun i => ws[i]?) = wc.map some) (hnC : va_nd isC = true) (q0 : Nat) (he : ws[q0]? = some (b, .inr (ci, fs))) (hc : vwCl[ci]? = some (C, T, N)) (hn : As.length = n) (hsize : ls.size = nL) (hstack : st0 = As.reverse ++ .ref b :: rest) (hW : (rest.map fun v => v.category).sum ≤ 8) (hdg : decode cc pc = .ok (.invokevirtual index, 3)) (hf : cells + 0 ≤ R.cells ∧ slots + 0 ≤ R.slots)
    (kk : ∀ (H1 : Heap) (locs1 : List Loc), va_P G vwCl ws H1 → va_S A s.heap H1 locs1 → W p l e R s m args below meth c H1 locs1 cells slots Q (F0 m (pc + 3) ls (r.toList ++ rest))) : W p l e R s m args below meth c H locs cells slots Q (F0 m pc ls st0) :=
  call_V S hM cw hEN hA hP hD hS isC hC hnC rfl q0 he hc hn hsize hstack hW hdg hf (fun H1 locs1 h1 _ h3 => kk H1 locs1 (by rw [updC_self isC wc ws hC] at h1; exact h1) h3)
theorem call_S0 {p : Program} {l : Launch} {e : Env} {R : Room} {s : State} {m : MethodId} {args : Array Value} {below : List Frame} {meth : Method} {c : Code} {H : Heap} {locs : List Loc} {cells slots : Nat} {Q : State → Prop} {G : va_G} {cI cZ : ClassId} {A : Nat → Prop} {ws wc : va_W} {r : Option Value} {pc : Nat} {ls : Array Slot} {st0 rest As : List Value} {Ts ws1 : List Cond} {cc bytes : ByteArray} {nL maxL index n : Nat} {own : String} {y : MethodName} {ret : Option FieldType} {rm : Room}
    (S : CallFix p m c cc nL s args Ts own) (hM : Ct l y ws1 rm G cI cZ As wc r wc) (cw : CallB R s args own index y bytes maxL ret ws1 rm 0 0 n ∧ (Cond.static y).before args s = true) (hEN : EN G cI cZ A s) (hA : ∀ q, s.heap.size ≤ q → A q) (hP : va_P G vwCl ws H) (hD : va_D A ws) (hS : va_S A s.heap H locs) (isC : List Nat) (hC : isC.map (fun i => ws[i]?) = wc.map some) (hnC : va_nd isC = true) (hn : As.length = n) (hsize : ls.size = nL) (hstack : st0 = As.reverse ++ rest) (hW : (rest.map fun v => v.category).sum ≤ 8) (hdg : decode cc pc = .ok (.invokestatic index, 3)) (hf : cells + 0 ≤ R.cells ∧ slots + 0 ≤ R.slots)
    (kk : ∀ (H1 : Heap) (locs1 : List Loc), va_P G vwCl ws H1 → va_S A s.heap H1 locs1 → W p l e R s m args below meth c H1 locs1 cells slots Q (F0 m (pc + 3) ls (r.toList ++ rest))) : W p l e R s m args below meth c H locs cells slots Q (F0 m pc ls st0) :=
  call_S S hM cw hEN hA hP hD hS isC hC hnC rfl hn hsize hstack hW hdg hf (fun H1 locs1 h1 _ h3 => kk H1 locs1 (by rw [updC_self isC wc ws hC] at h1; exact h1) h3)
theorem call_SN0 {p : Program} {l : Launch} {e : Env} {R : Room} {s : State} {m : MethodId} {args : Array Value} {below : List Frame} {meth : Method} {c : Code} {H : Heap} {locs : List Loc} {cells slots : Nat} {Q : State → Prop} {G : va_G} {cI cZ : ClassId} {A : Nat → Prop} {ws wc : va_W} {r : Option Value} {pc : Nat} {ls : Array Slot} {st0 rest As : List Value} {Ts ws1 : List Cond} {cc bytes : ByteArray} {nL maxL index n : Nat} {own host : String} {y : MethodName} {ret : Option FieldType} {rm : Room}
    (S : CallFix p m c cc nL s args Ts own) (hM : Ct l y ws1 rm G cI cZ As wc r wc) (cw : va_CN R s args own index y host bytes maxL ret ws1 rm 0 0 n ∧ (Cond.static y).before args s = true ∧ True) (hEN : EN G cI cZ A s) (hA : ∀ q, s.heap.size ≤ q → A q) (hP : va_P G vwCl ws H) (hD : va_D A ws) (hS : va_S A s.heap H locs) (isC : List Nat) (hC : isC.map (fun i => ws[i]?) = wc.map some) (hnC : va_nd isC = true) (hn : As.length = n) (hsize : ls.size = nL) (hstack : st0 = As.reverse ++ rest) (hW : (rest.map fun v => v.category).sum ≤ 8) (hdg : decode cc pc = .ok (.invokestatic index, 3)) (hf : cells + 0 ≤ R.cells ∧ slots + 0 ≤ R.slots)
    (kk : ∀ (H1 : Heap) (locs1 : List Loc), va_P G vwCl ws H1 → va_S A s.heap H1 locs1 → W p l e R s m args below meth c H1 locs1 cells slots Q (F0 m (pc + 3) ls (r.toList ++ rest))) : W p l e R s m args below meth c H locs cells slots Q (F0 m pc ls st0) :=
  call_SN S hM cw hEN hA hP hD hS isC hC hnC rfl hn hsize hstack hW hdg hf (fun H1 locs1 h1 _ h3 => kk H1 locs1 (by rw [updC_self isC wc ws hC] at h1; exact h1) h3)
def bz (v : Int32) : Bool := decide (v &&& 1 = v)
theorem bz_n {v : Int32} (h : bz v = true) : narrow .boolean (.int v) = .int v := by
  have h : v &&& 1 = v := of_decide_eq_true h
  show Value.int (v &&& 1) = .int v
  rw [h]
def rem (x y : Int32) : Int32 := x - x / y * y
def ushr (x y : Int32) : Int32 := (x.toUInt32 >>> (y.toUInt32 &&& Int32.toUInt32 31)).toInt32
theorem lv_rem {p : Program} {l : Launch} {e : Env} {R : Room} {s : State} {m : MethodId} {args : Array Value} {below : List Frame} {meth : Method} {c : Code} {H : Heap} {locs : List Loc} {cells slots : Nat} {Q : State → Prop} {cc : ByteArray} {pc : Nat} {ls : Array Slot} {rest : List Value} (hexec : p.tables.exec = Jvm.exec) (hb : c.code = cc) {x y : Int32} (hdg : decode cc pc = .ok (.irem, 1)) (hne : ¬ y = 0) (k : W p l e R s m args below meth c H locs cells slots Q (F0 m (pc + 1) ls (.int (rem x y) :: rest))) : W p l e R s m args below meth c H locs cells slots Q (F0 m pc ls (.int y :: .int x :: rest)) := lv_irem hexec hb hdg hne k
theorem Ct.of_i {l : Launch} {y : MethodName} {ws ws' : List Cond} {rm : Room} {G : va_G} {cI cZ : ClassId} {av : List Value} {w0 w1 : va_W} {v : Int32} {cc : ByteArray} {maxL : Nat} (hy : plainFor y = true) (hw : ws = Cond.code y cc maxL (some .int) :: ws') (hlen : (lg_sl av).length ≤ maxL)
    (body : ∀ (p : Program) (e : Env) (s : State) (m : MethodId) (below : List Frame) (meth : Method) (c : Code) (args : Array Value), p.tables.exec = Jvm.exec → c.code = cc → c.maxLocals = maxL → s.vm.findClass y.cls = some m.cls → (∀ w ∈ ws, w.before args s = true) → ∀ A : Nat → Prop, (∀ q, s.heap.size ≤ q → A q) → EN G cI cZ A s → va_P G vwCl w0 s.heap → va_D A w0 → va_S A s.heap s.heap [] → ∀ Q : State → Prop, (∀ (pc : Nat) (H : Heap) (locs : List Loc) (ls : Array Slot), va_P G vwCl w1 H → va_D A w1 → va_S A s.heap H locs → decode cc pc = .ok (.ireturn, 1) → W p l e rm s m args below meth c H locs 0 0 Q (F0 m pc ls [.int v])) → ∀ ls : Array Slot, lv_has ls maxL (lv_args 0 av) → W p l e rm s m args below meth c s.heap [] 0 0 Q (F0 m 0 ls [])) : Ct l y ws rm G cI cZ av w0 (some (.int v)) w1 :=
  Ct.ofW hy hw hlen (fun p e s m below meth c hx hb hr hml hown hts hlk A hA hEN hP hD hS ls hl => body p e s m below meth c _ hx hb hml hown hts A hA hEN hP hD hS _ (fun pc H locs ls h1 h2 h3 h4 => ct_iret hx hb hr hlk h1 h2 h3 h4) ls hl)
theorem Ct.of_z {l : Launch} {y : MethodName} {ws ws' : List Cond} {rm : Room} {G : va_G} {cI cZ : ClassId} {av : List Value} {w0 w1 : va_W} {v : Int32} {cc : ByteArray} {maxL : Nat} (hy : plainFor y = true) (hw : ws = Cond.code y cc maxL (some .boolean) :: ws') (hlen : (lg_sl av).length ≤ maxL)
    (body : ∀ (p : Program) (e : Env) (s : State) (m : MethodId) (below : List Frame) (meth : Method) (c : Code) (args : Array Value), p.tables.exec = Jvm.exec → c.code = cc → c.maxLocals = maxL → s.vm.findClass y.cls = some m.cls → (∀ w ∈ ws, w.before args s = true) → ∀ A : Nat → Prop, (∀ q, s.heap.size ≤ q → A q) → EN G cI cZ A s → va_P G vwCl w0 s.heap → va_D A w0 → va_S A s.heap s.heap [] → ∀ Q : State → Prop, (∀ (pc : Nat), narrow .boolean (.int v) = .int v → ∀ (H : Heap) (locs : List Loc) (ls : Array Slot), va_P G vwCl w1 H → va_D A w1 → va_S A s.heap H locs → decode cc pc = .ok (.ireturn, 1) → W p l e rm s m args below meth c H locs 0 0 Q (F0 m pc ls [.int v])) → ∀ ls : Array Slot, lv_has ls maxL (lv_args 0 av) → W p l e rm s m args below meth c s.heap [] 0 0 Q (F0 m 0 ls [])) : Ct l y ws rm G cI cZ av w0 (some (.int v)) w1 :=
  Ct.ofW hy hw hlen (fun p e s m below meth c hx hb hr hml hown hts hlk A hA hEN hP hD hS ls hl => body p e s m below meth c _ hx hb hml hown hts A hA hEN hP hD hS _ (fun pc hn H locs ls h1 h2 h3 h4 => ct_zret hx hb hr hlk hn h1 h2 h3 h4) ls hl)
theorem Ct.of_l {l : Launch} {y : MethodName} {ws ws' : List Cond} {rm : Room} {G : va_G} {cI cZ : ClassId} {av : List Value} {w0 w1 : va_W} {v : Int64} {cc : ByteArray} {maxL : Nat} (hy : plainFor y = true) (hw : ws = Cond.code y cc maxL (some .long) :: ws') (hlen : (lg_sl av).length ≤ maxL)
    (body : ∀ (p : Program) (e : Env) (s : State) (m : MethodId) (below : List Frame) (meth : Method) (c : Code) (args : Array Value), p.tables.exec = Jvm.exec → c.code = cc → c.maxLocals = maxL → s.vm.findClass y.cls = some m.cls → (∀ w ∈ ws, w.before args s = true) → ∀ A : Nat → Prop, (∀ q, s.heap.size ≤ q → A q) → EN G cI cZ A s → va_P G vwCl w0 s.heap → va_D A w0 → va_S A s.heap s.heap [] → ∀ Q : State → Prop, (∀ (pc : Nat) (H : Heap) (locs : List Loc) (ls : Array Slot), va_P G vwCl w1 H → va_D A w1 → va_S A s.heap H locs → decode cc pc = .ok (.lreturn, 1) → W p l e rm s m args below meth c H locs 0 0 Q (F0 m pc ls [.long v])) → ∀ ls : Array Slot, lv_has ls maxL (lv_args 0 av) → W p l e rm s m args below meth c s.heap [] 0 0 Q (F0 m 0 ls [])) : Ct l y ws rm G cI cZ av w0 (some (.long v)) w1 :=
  Ct.ofW hy hw hlen (fun p e s m below meth c hx hb hr hml hown hts hlk A hA hEN hP hD hS ls hl => body p e s m below meth c _ hx hb hml hown hts A hA hEN hP hD hS _ (fun pc H locs ls h1 h2 h3 h4 => ct_lret hx hb hr hlk h1 h2 h3 h4) ls hl)
theorem Ct.of_a {l : Launch} {y : MethodName} {ws ws' : List Cond} {rm : Room} {G : va_G} {cI cZ : ClassId} {av : List Value} {w0 w1 : va_W} {a : Nat} {rt : String} {cc : ByteArray} {maxL : Nat} (hy : plainFor y = true) (hw : ws = Cond.code y cc maxL (some (.object rt)) :: ws') (hlen : (lg_sl av).length ≤ maxL)
    (body : ∀ (p : Program) (e : Env) (s : State) (m : MethodId) (below : List Frame) (meth : Method) (c : Code) (args : Array Value), p.tables.exec = Jvm.exec → c.code = cc → c.maxLocals = maxL → s.vm.findClass y.cls = some m.cls → (∀ w ∈ ws, w.before args s = true) → ∀ A : Nat → Prop, (∀ q, s.heap.size ≤ q → A q) → EN G cI cZ A s → va_P G vwCl w0 s.heap → va_D A w0 → va_S A s.heap s.heap [] → ∀ Q : State → Prop, (∀ (pc : Nat) (H : Heap) (locs : List Loc) (ls : Array Slot), va_P G vwCl w1 H → va_D A w1 → va_S A s.heap H locs → decode cc pc = .ok (.areturn, 1) → W p l e rm s m args below meth c H locs 0 0 Q (F0 m pc ls [.ref a])) → ∀ ls : Array Slot, lv_has ls maxL (lv_args 0 av) → W p l e rm s m args below meth c s.heap [] 0 0 Q (F0 m 0 ls [])) : Ct l y ws rm G cI cZ av w0 (some (.ref a)) w1 :=
  Ct.ofW hy hw hlen (fun p e s m below meth c hx hb hr hml hown hts hlk A hA hEN hP hD hS ls hl => body p e s m below meth c _ hx hb hml hown hts A hA hEN hP hD hS _ (fun pc H locs ls h1 h2 h3 h4 => ct_aret hx hb hr hlk h1 h2 h3 h4) ls hl)
theorem Ct.of_v {l : Launch} {y : MethodName} {ws ws' : List Cond} {rm : Room} {G : va_G} {cI cZ : ClassId} {av : List Value} {w0 w1 : va_W} {cc : ByteArray} {maxL : Nat} (hy : plainFor y = true) (hw : ws = Cond.code y cc maxL none :: ws') (hlen : (lg_sl av).length ≤ maxL)
    (body : ∀ (p : Program) (e : Env) (s : State) (m : MethodId) (below : List Frame) (meth : Method) (c : Code) (args : Array Value), p.tables.exec = Jvm.exec → c.code = cc → c.maxLocals = maxL → s.vm.findClass y.cls = some m.cls → (∀ w ∈ ws, w.before args s = true) → ∀ A : Nat → Prop, (∀ q, s.heap.size ≤ q → A q) → EN G cI cZ A s → va_P G vwCl w0 s.heap → va_D A w0 → va_S A s.heap s.heap [] → ∀ Q : State → Prop, (∀ (pc : Nat) (H : Heap) (locs : List Loc) (ls : Array Slot), va_P G vwCl w1 H → va_D A w1 → va_S A s.heap H locs → decode cc pc = .ok (.return_, 1) → W p l e rm s m args below meth c H locs 0 0 Q (F0 m pc ls [])) → ∀ ls : Array Slot, lv_has ls maxL (lv_args 0 av) → W p l e rm s m args below meth c s.heap [] 0 0 Q (F0 m 0 ls [])) : Ct l y ws rm G cI cZ av w0 none w1 :=
  Ct.ofW hy hw hlen (fun p e s m below meth c hx hb hr hml hown hts hlk A hA hEN hP hD hS ls hl => body p e s m below meth c _ hx hb hml hown hts A hA hEN hP hD hS _ (fun pc H locs ls h1 h2 h3 h4 => ct_vret hx hb hr hlk h1 h2 h3 h4) ls hl)
abbrev ai (c : ClassId) (a n : Nat) (f : Nat → Int32) : Nat × va_E := (a, .inl (c, n, .inl f))
theorem nz0 : narrow .boolean (.int 0) = .int 0 := rfl
theorem nz1 : narrow .boolean (.int 1) = .int 1 := rfl
/-! a call whose cells come back behind the rest: for large worlds -/
theorem callJ {p : Program} {l : Launch} {e : Env} {R : Room} {s : State} {m : MethodId} {args : Array Value} {below : List Frame} {meth : Method} {c : Code} {H : Heap} {locs : List Loc} {cells slots : Nat} {Q : State → Prop} {G : va_G} {A : Nat → Prop} {ws wc wr w1 : va_W} {r : Option Value} {pc : Nat} {ls : Array Slot} {st0 rest : List Value} {a : Array Value}
    (hr : va_Run p l e R s m args below meth c H locs cells slots 0 0 (F0 m pc ls st0) rest (CtQ G r w1 (va_A wc H.size) a) (va_A wc H.size)) (hA : ∀ q, s.heap.size ≤ q → A q) (hP : va_P G vwCl ws H) (hD : va_D A ws) (hS : va_S A s.heap H locs) (isC isR : List Nat) (hC : isC.map (fun i => ws[i]?) = wc.map some) (hR : isR.map (fun i => ws[i]?) = wr.map some) (hnR : va_nd isR = true) (hdis : ∀ i ∈ isR, i ∉ isC)
    (kk : ∀ (H1 : Heap) (locs1 : List Loc), va_P G vwCl (wr ++ w1) H1 → va_D A (wr ++ w1) → va_S A s.heap H1 locs1 → W p l e R s m args below meth c H1 locs1 cells slots Q (F0 m (pc + 3) ls (r.toList ++ rest))) : W p l e R s m args below meth c H locs cells slots Q (F0 m pc ls st0) := by
  intro T hT X
  obtain ⟨v, st₀, t, T', L, h0, X', hL, e1, -, ⟨⟨hv, hP1, hD1⟩, hF⟩, sg⟩ := hr T hT X
  cases hv
  subst h0
  have hfr := va_free hD hS hA isC hC
  obtain ⟨hPn, hDn⟩ := va_join hP hD isC isR hC hR hnR hdis (fun q h1 h2 => hF.2 q h1 h2) hfr hP1 hD1
  have hSn : va_S A s.heap t.heap (locs ++ L) := by
    refine ⟨Nat.le_trans hS.1 hF.1, fun q h1 h2 => ?_, fun q hq => ?_⟩
    · rw [hF.2 q (Nat.lt_of_lt_of_le h1 hS.1) (fun z => h2 (hfr q z)), hS.2.1 q h1 h2]
    · rcases List.mem_append.mp hq with h | h
      · exact hS.2.2 q h
      · exact hfr _ (hL q h)
  obtain ⟨t2, a1, b1⟩ := kk t.heap (locs ++ L) hPn hDn hSn T' e1 X'
  exact ⟨t2, sg t2 a1, b1⟩
theorem call_VJ {p : Program} {l : Launch} {e : Env} {R : Room} {s : State} {m : MethodId} {args : Array Value} {below : List Frame} {meth : Method} {c : Code} {H : Heap} {locs : List Loc} {cells slots : Nat} {Q : State → Prop} {G : va_G} {cI cZ : ClassId} {A : Nat → Prop} {ws wc wr w1 : va_W} {r : Option Value} {pc : Nat} {ls : Array Slot} {st0 rest As : List Value} {Ts ws1 : List Cond} {cc bytes : ByteArray} {nL maxL index n : Nat} {own C : String} {y : MethodName} {ret : Option FieldType} {rm : Room} {b ci N : Nat} {T : u_T} {fs : List Value}
    (S : CallFix p m c cc nL s args Ts own) (hM : Ct l y ws1 rm G cI cZ (.ref b :: As) wc r w1) (cw : CallW R s args own C index y bytes maxL ret ws1 rm 0 0 n) (hEN : EN G cI cZ A s) (hA : ∀ q, s.heap.size ≤ q → A q) (hP : va_P G vwCl ws H) (hD : va_D A ws) (hS : va_S A s.heap H locs) (isC isR : List Nat) (hC : isC.map (fun i => ws[i]?) = wc.map some) (hnC : va_nd isC = true) (hR : isR.map (fun i => ws[i]?) = wr.map some) (hnR : va_nd isR = true) (hdis : ∀ i ∈ isR, i ∉ isC) (q0 : Nat) (he : ws[q0]? = some (b, .inr (ci, fs))) (hc : vwCl[ci]? = some (C, T, N)) (hn : As.length = n) (hsize : ls.size = nL) (hstack : st0 = As.reverse ++ .ref b :: rest) (hW : (rest.map fun v => v.category).sum ≤ 8) (hdg : decode cc pc = .ok (.invokevirtual index, 3)) (hf : cells + 0 ≤ R.cells ∧ slots + 0 ≤ R.slots)
    (kk : ∀ (H1 : Heap) (locs1 : List Loc), va_P G vwCl (wr ++ w1) H1 → va_D A (wr ++ w1) → va_S A s.heap H1 locs1 → W p l e R s m args below meth c H1 locs1 cells slots Q (F0 m (pc + 3) ls (r.toList ++ rest))) : W p l e R s m args below meth c H locs cells slots Q (F0 m pc ls st0) :=
  callJ (va_runV S (hM H.size) cw ⟨CtP.blind, va_recv hEN.1 hP hc he, (preS (l := l) hEN hA hP hD hS isC hC hnC).2⟩ rfl hn hsize hstack (lv_room hW) hdg hf) hA hP hD hS isC isR hC hR hnR hdis kk
theorem call_SJ {p : Program} {l : Launch} {e : Env} {R : Room} {s : State} {m : MethodId} {args : Array Value} {below : List Frame} {meth : Method} {c : Code} {H : Heap} {locs : List Loc} {cells slots : Nat} {Q : State → Prop} {G : va_G} {cI cZ : ClassId} {A : Nat → Prop} {ws wc wr w1 : va_W} {r : Option Value} {pc : Nat} {ls : Array Slot} {st0 rest As : List Value} {Ts ws1 : List Cond} {cc bytes : ByteArray} {nL maxL index n : Nat} {own : String} {y : MethodName} {ret : Option FieldType} {rm : Room}
    (S : CallFix p m c cc nL s args Ts own) (hM : Ct l y ws1 rm G cI cZ As wc r w1) (cw : CallB R s args own index y bytes maxL ret ws1 rm 0 0 n ∧ (Cond.static y).before args s = true) (hEN : EN G cI cZ A s) (hA : ∀ q, s.heap.size ≤ q → A q) (hP : va_P G vwCl ws H) (hD : va_D A ws) (hS : va_S A s.heap H locs) (isC isR : List Nat) (hC : isC.map (fun i => ws[i]?) = wc.map some) (hnC : va_nd isC = true) (hR : isR.map (fun i => ws[i]?) = wr.map some) (hnR : va_nd isR = true) (hdis : ∀ i ∈ isR, i ∉ isC) (hn : As.length = n) (hsize : ls.size = nL) (hstack : st0 = As.reverse ++ rest) (hW : (rest.map fun v => v.category).sum ≤ 8) (hdg : decode cc pc = .ok (.invokestatic index, 3)) (hf : cells + 0 ≤ R.cells ∧ slots + 0 ≤ R.slots)
    (kk : ∀ (H1 : Heap) (locs1 : List Loc), va_P G vwCl (wr ++ w1) H1 → va_D A (wr ++ w1) → va_S A s.heap H1 locs1 → W p l e R s m args below meth c H1 locs1 cells slots Q (F0 m (pc + 3) ls (r.toList ++ rest))) : W p l e R s m args below meth c H locs cells slots Q (F0 m pc ls st0) :=
  callJ (va_runS S (hM H.size) cw (preS (l := l) hEN hA hP hD hS isC hC hnC) rfl hn hsize hstack (lv_room hW) hdg hf) hA hP hD hS isC isR hC hR hnR hdis kk
