/-! Contracts of constructors: cells are made; their addresses come with the world that is left. -/
def zO : Ob := fun _ _ => 0
def CnQ (G : va_G) (o : Nat) (w1 : (Nat → Nat → Nat) → va_W) (A : Nat → Prop) : Array Value → State → Outcome → State → Prop := fun _ st oc t => (∃ b : Nat → Nat → Nat, b 0 0 = o ∧ oc = .returned none ∧ va_P G vwCl (w1 b) t.heap ∧ va_D A (w1 b)) ∧ va_F A st t
def Cn (l : Launch) (y : MethodName) (ws : List Cond) (rm : Room) (G : va_G) (cI cZ : ClassId) (o : Nat) (av : List Value) (w0 : va_W) (mc ms : Nat) (w1 : (Nat → Nat → Nat) → va_W) : Prop := ∀ sz : Nat, Met l y ws rm (CtP G cI cZ (.ref o :: av) w0 sz) (CnQ G o w1 (va_A w0 sz)) mc ms (va_A w0 sz)
theorem Cn.ofW {l : Launch} {y : MethodName} {ws ws' : List Cond} {rm : Room} {G : va_G} {cI cZ : ClassId} {o : Nat} {av : List Value} {w0 : va_W} {mc ms : Nat} {w1 : (Nat → Nat → Nat) → va_W} {cc : ByteArray} {maxL : Nat} (hy : plainFor y = true) (hw : ws = Cond.code y cc maxL none :: ws') (hlen : (lg_sl (.ref o :: av)).length ≤ maxL) (hyn : y.name = "<init>")
    (body : ∀ (p : Program) (e : Env) (s : State) (m : MethodId) (below : List Frame) (meth : Method) (c : Code) (args : Array Value), p.tables.exec = Jvm.exec → c.code = cc → c.maxLocals = maxL → s.vm.findClass y.cls = some m.cls → (∀ w ∈ ws, w.before args s = true) → meth.name = "<init>" → ∀ A : Nat → Prop, (∀ q, s.heap.size ≤ q → A q) → EN G cI cZ A s → va_P G vwCl w0 s.heap → va_D A w0 → va_S A s.heap s.heap [] → ∀ Q : State → Prop, (∀ (pc : Nat) (b : Nat → Nat → Nat), b 0 0 = o → ∀ (H : Heap) (locs : List Loc) (ls : Array Slot), va_P G vwCl (w1 b) H → va_D A (w1 b) → va_S A s.heap H locs → decode cc pc = .ok (.return_, 1) → W p l e rm s m args below meth c H locs mc ms Q (F0 m pc ls [])) → ∀ ls : Array Slot, lv_has ls maxL (lv_args 0 (.ref o :: av)) → W p l e rm s m args below meth c s.heap [] 0 0 Q (F0 m 0 ls [])) : Cn l y ws rm G cI cZ o av w0 mc ms w1 := by
  intro sz
  refine Met.ofWF (cc := cc) (maxL := maxL) (ret := none) hy hw ?_
  intro p e s m args below meth c s₁ B hml hv
  obtain ⟨rfl, hsz, hP, hE, hD0⟩ := hv
  subst hsz
  have hl := lv_entry (.ref o :: av) (n := maxL) hlen
  rw [lg_entry_eq]
  exact body p e s m below meth c _ B.exec B.bytes hml (findClass_of_methodNamed B.named) (atoms_spec (ws := ws) B.pre) ((name_of_methodNamed B.named B.method).1.trans hyn) _ (fun q h => Or.inr h) hE hP hD0.self va_S.rf _ (fun pc b hb0 H locs ls h1 h2 h3 h4 => W.vret B.exec B.bytes B.returns (fun t ht _ => ⟨⟨b, hb0, rfl, by rw [ht]; exact h1, h2⟩, h3.F ht⟩) h3.2.2 h4 B.notSynchronized) _ hl
theorem callN {p : Program} {l : Launch} {e : Env} {R : Room} {s : State} {m : MethodId} {args : Array Value} {below : List Frame} {meth : Method} {c : Code} {H : Heap} {locs : List Loc} {cells slots mc ms : Nat} {Q : State → Prop} {G : va_G} {A : Nat → Prop} {ws wc wr : va_W} {w1 : (Nat → Nat → Nat) → va_W} {pc : Nat} {ls : Array Slot} {st0 rest : List Value} {a : Array Value} {o : Nat}
    (hr : va_Run p l e R s m args below meth c H locs cells slots mc ms (F0 m pc ls st0) rest (CnQ G o w1 (va_A wc H.size) a) (va_A wc H.size)) (hA : ∀ q, s.heap.size ≤ q → A q) (hP : va_P G vwCl ws H) (hD : va_D A ws) (hS : va_S A s.heap H locs) (isC isR : List Nat) (hC : isC.map (fun i => ws[i]?) = wc.map some) (hR : isR.map (fun i => ws[i]?) = wr.map some) (hnR : va_nd isR = true) (hdis : ∀ i ∈ isR, i ∉ isC)
    (kk : ∀ (b : Nat → Nat → Nat), b 0 0 = o → ∀ (H1 : Heap) (locs1 : List Loc), va_P G vwCl (wr ++ w1 b) H1 → va_D A (wr ++ w1 b) → va_S A s.heap H1 locs1 → W p l e R s m args below meth c H1 locs1 (cells + mc) (slots + ms) Q (F0 m (pc + 3) ls rest)) : W p l e R s m args below meth c H locs cells slots Q (F0 m pc ls st0) := by
  intro T hT X
  obtain ⟨v, st₀, t, T', L, h0, X', hL, e1, -, ⟨⟨b, hb0, hv, hP1, hD1⟩, hF⟩, sg⟩ := hr T hT X
  cases hv
  subst h0
  have hfr := va_free hD hS hA isC hC
  obtain ⟨hPn, hDn⟩ := va_join hP hD isC isR hC hR hnR hdis (fun q h1 h2 => hF.2 q h1 h2) hfr hP1 hD1
  have hSn : va_S A s.heap t.heap (locs ++ L) := by
    refine ⟨Nat.le_trans hS.1 hF.1, fun q h1 h2 => ?_, fun q hq => ?_⟩
    · rw [hF.2 q (Nat.lt_of_lt_of_le h1 hS.1) (fun z => h2 (hfr q z)), hS.2.1 q h1 h2]
    · rcases List.mem_append.mp hq with h | h
      · exact hS.2.2 q h
      · exact hfr _ (hL q h)
  obtain ⟨t2, a1, b1⟩ := kk b hb0 t.heap (locs ++ L) hPn hDn hSn T' e1 X'
  exact ⟨t2, sg t2 a1, b1⟩
theorem call_IN {p : Program} {l : Launch} {e : Env} {R : Room} {s : State} {m : MethodId} {args : Array Value} {below : List Frame} {meth : Method} {c : Code} {H : Heap} {locs : List Loc} {cells slots mc ms : Nat} {Q : State → Prop} {G : va_G} {cI cZ : ClassId} {A : Nat → Prop} {ws wc wr : va_W} {w1 : (Nat → Nat → Nat) → va_W} {pc : Nat} {ls : Array Slot} {st0 rest As : List Value} {Ts ws1 : List Cond} {cc bytes : ByteArray} {nL maxL index n : Nat} {own host : String} {y : MethodName} {rm : Room} {o : Nat}
    (S : CallFix p m c cc nL s args Ts own) (hM : Cn l y ws1 rm G cI cZ o As wc mc ms w1) (cw : va_CN R s args own index y host bytes maxL none ws1 rm mc ms n ∧ y.name = "<init>" ∧ (Cond.instanceMethod y).before args s = true) (hEN : EN G cI cZ A s) (hA : ∀ q, s.heap.size ≤ q → A q) (hP : va_P G vwCl ws H) (hD : va_D A ws) (hS : va_S A s.heap H locs) (isC isR : List Nat) (hC : isC.map (fun i => ws[i]?) = wc.map some) (hnC : va_nd isC = true) (hR : isR.map (fun i => ws[i]?) = wr.map some) (hnR : va_nd isR = true) (hdis : ∀ i ∈ isR, i ∉ isC) (hn : As.length = n) (hsize : ls.size = nL) (hstack : st0 = As.reverse ++ .ref o :: rest) (hW : (rest.map fun v => v.category).sum ≤ 8) (hdg : decode cc pc = .ok (.invokespecial index, 3)) (hf : cells + mc ≤ R.cells ∧ slots + ms ≤ R.slots)
    (kk : ∀ (b : Nat → Nat → Nat), b 0 0 = o → ∀ (H1 : Heap) (locs1 : List Loc), va_P G vwCl (wr ++ w1 b) H1 → va_D A (wr ++ w1 b) → va_S A s.heap H1 locs1 → W p l e R s m args below meth c H1 locs1 (cells + mc) (slots + ms) Q (F0 m (pc + 3) ls rest)) : W p l e R s m args below meth c H locs cells slots Q (F0 m pc ls st0) :=
  callN (va_runIN S (hM H.size) cw (preS (l := l) hEN hA hP hD hS isC hC hnC) rfl hn hsize hstack (lv_room hW) hdg hf) hA hP hD hS isC isR hC hR hnR hdis kk
theorem call_I {p : Program} {l : Launch} {e : Env} {R : Room} {s : State} {m : MethodId} {args : Array Value} {below : List Frame} {meth : Method} {c : Code} {H : Heap} {locs : List Loc} {cells slots mc ms : Nat} {Q : State → Prop} {G : va_G} {cI cZ : ClassId} {A : Nat → Prop} {ws wc wr : va_W} {w1 : (Nat → Nat → Nat) → va_W} {pc : Nat} {ls : Array Slot} {st0 rest As : List Value} {Ts ws1 : List Cond} {cc bytes : ByteArray} {nL maxL index n : Nat} {own : String} {y : MethodName} {rm : Room} {o : Nat}
    (S : CallFix p m c cc nL s args Ts own) (hM : Cn l y ws1 rm G cI cZ o As wc mc ms w1) (cw : CallB R s args own index y bytes maxL none ws1 rm mc ms n ∧ y.name = "<init>" ∧ (Cond.instanceMethod y).before args s = true) (hEN : EN G cI cZ A s) (hA : ∀ q, s.heap.size ≤ q → A q) (hP : va_P G vwCl ws H) (hD : va_D A ws) (hS : va_S A s.heap H locs) (isC isR : List Nat) (hC : isC.map (fun i => ws[i]?) = wc.map some) (hnC : va_nd isC = true) (hR : isR.map (fun i => ws[i]?) = wr.map some) (hnR : va_nd isR = true) (hdis : ∀ i ∈ isR, i ∉ isC) (hn : As.length = n) (hsize : ls.size = nL) (hstack : st0 = As.reverse ++ .ref o :: rest) (hW : (rest.map fun v => v.category).sum ≤ 8) (hdg : decode cc pc = .ok (.invokespecial index, 3)) (hf : cells + mc ≤ R.cells ∧ slots + ms ≤ R.slots)
    (kk : ∀ (b : Nat → Nat → Nat), b 0 0 = o → ∀ (H1 : Heap) (locs1 : List Loc), va_P G vwCl (wr ++ w1 b) H1 → va_D A (wr ++ w1 b) → va_S A s.heap H1 locs1 → W p l e R s m args below meth c H1 locs1 (cells + mc) (slots + ms) Q (F0 m (pc + 3) ls rest)) : W p l e R s m args below meth c H locs cells slots Q (F0 m pc ls st0) :=
  callN (va_runI S (hM H.size) cw (preS (l := l) hEN hA hP hD hS isC hC hnC) rfl hn hsize hstack (lv_room hW) hdg hf) hA hP hD hS isC isR hC hR hnR hdis kk
/-- a new int array: its class is the one that is known -/
theorem newI {p : Program} {l : Launch} {e : Env} {R : Room} {s : State} {m : MethodId} {args : Array Value} {below : List Frame} {meth : Method} {c : Code} {H H0 : Heap} {locs : List Loc} {cells slots : Nat} {Q : State → Prop} {G : va_G} {cI cZ : ClassId} {A : Nat → Prop} {ws : va_W} {pc : Nat} {ls : Array Slot} {rest : List Value} {cc : ByteArray} (hx : p.tables.exec = Jvm.exec) (hb : c.code = cc) (harr : (Cond.arrayClass .int).before args s = true) (hK : va_K G vwCl [(cI, .int), (cZ, .boolean)] s) (hP : va_P G vwCl ws H) (hD : va_D A ws) (hS : va_S A H0 H locs) (hA : ∀ q, H0.size ≤ q → A q) {n : Int32} {N : Nat} (hn : ¬ n < 0) (hN : n.toNatClampNeg = N) (hbytes : N * componentBytes .int ≤ 536870912) (hcells : cells + 1 ≤ R.cells) (hslots : slots + N ≤ R.slots) (hdg : decode cc pc = .ok (.newarray .int, 2))
    (kk : ∀ (q : Nat) (H1 : Heap), va_P G vwCl (ws ++ [ai cI q N (fun _ => 0)]) H1 → va_D A (ws ++ [ai cI q N (fun _ => 0)]) → va_S A H0 H1 locs → W p l e R s m args below meth c H1 locs (cells + 1) (slots + N) Q (F0 m (pc + 2) ls (.ref q :: rest))) : W p l e R s m args below meth c H locs cells slots Q (F0 m pc ls (.int n :: rest)) := by
  refine va_newa (atype := .int) (ty := .int) (a0 := (N, .inl (fun _ => 0))) hx hb harr rfl hK hP hD hS hA (fun cA => rfl) hn hN hbytes hcells hslots hdg (fun q cA H1 hK1 hP1 hD1 hS1 => ?_)
  have h1 := (hK1.2 0 _ rfl).2
  have h2 := (hK1.2 2 _ rfl).2
  have h3 : cA = cI := Option.some.inj (Eq.trans (Eq.symm h2) h1)
  subst h3
  exact kk q H1 hP1 hD1 hS1
theorem newZ {p : Program} {l : Launch} {e : Env} {R : Room} {s : State} {m : MethodId} {args : Array Value} {below : List Frame} {meth : Method} {c : Code} {H H0 : Heap} {locs : List Loc} {cells slots : Nat} {Q : State → Prop} {G : va_G} {cI cZ : ClassId} {A : Nat → Prop} {ws : va_W} {pc : Nat} {ls : Array Slot} {rest : List Value} {cc : ByteArray} (hx : p.tables.exec = Jvm.exec) (hb : c.code = cc) (harr : (Cond.arrayClass .boolean).before args s = true) (hK : va_K G vwCl [(cI, .int), (cZ, .boolean)] s) (hP : va_P G vwCl ws H) (hD : va_D A ws) (hS : va_S A H0 H locs) (hA : ∀ q, H0.size ≤ q → A q) {n : Int32} {N : Nat} (hn : ¬ n < 0) (hN : n.toNatClampNeg = N) (hbytes : N * componentBytes .boolean ≤ 536870912) (hcells : cells + 1 ≤ R.cells) (hslots : slots + N ≤ R.slots) (hdg : decode cc pc = .ok (.newarray .boolean, 2))
    (kk : ∀ (q : Nat) (H1 : Heap), va_P G vwCl (ws ++ [ai cZ q N (fun _ => 0)]) H1 → va_D A (ws ++ [ai cZ q N (fun _ => 0)]) → va_S A H0 H1 locs → W p l e R s m args below meth c H1 locs (cells + 1) (slots + N) Q (F0 m (pc + 2) ls (.ref q :: rest))) : W p l e R s m args below meth c H locs cells slots Q (F0 m pc ls (.int n :: rest)) := by
  refine va_newa (atype := .boolean) (ty := .boolean) (a0 := (N, .inl (fun _ => 0))) hx hb harr rfl hK hP hD hS hA (fun cA => rfl) hn hN hbytes hcells hslots hdg (fun q cA H1 hK1 hP1 hD1 hS1 => ?_)
  have h1 := (hK1.2 1 _ rfl).2
  have h2 := (hK1.2 2 _ rfl).2
  have h3 : cA = cZ := Option.some.inj (Eq.trans (Eq.symm h2) h1)
  subst h3
  exact kk q H1 hP1 hD1 hS1
