/-! PURE: lie -/
theorem nx_or (a b : Nat) : nI a ||| nI b = nI (a ||| b) := by
  apply Int32.toBitVec_inj.1
  show BitVec.ofNat 32 a ||| BitVec.ofNat 32 b = BitVec.ofNat 32 (a ||| b)
  apply BitVec.eq_of_getLsbD_eq
  intro i hi
  simp [hi]
def cupd (seat d : Nat) : Nat := (d / 2 ^ (3 * seat)) % 2 ^ 3
def mk (f : Nat → Nat) (seat : Nat) : Nat → Nat
  | 0 => 0
  | i + 1 => mk f seat i ||| 2 ^ cupd seat (f i)
theorem mk_bit {f : Nat → Nat} {seat : Nat} (j : Nat) : ∀ {m : Nat}, (mk f seat m).testBit j = true ↔ ∃ i, i < m ∧ cupd seat (f i) = j
  | 0 => by
    show (0 : Nat).testBit j = true ↔ _
    exact ⟨fun h => (by rw [Nat.zero_testBit] at h; cases h), fun ⟨i, hi, _⟩ => by omega⟩
  | m + 1 => by
    show (mk f seat m ||| 2 ^ cupd seat (f m)).testBit j = true ↔ _
    rw [Nat.testBit_or, Bool.or_eq_true, mk_bit, Nat.testBit_two_pow, decide_eq_true_iff]
    constructor
    · rintro (⟨i, hi, h⟩ | h)
      · exact ⟨i, by omega, h⟩
      · exact ⟨m, by omega, h⟩
    · rintro ⟨i, hi, h⟩
      by_cases him : i = m
      · right; rw [← him]; exact h
      · left; exact ⟨i, by omega, h⟩
theorem mk_lt {f : Nat → Nat} {seat : Nat} : ∀ {m : Nat}, (∀ i, i < m → cupd seat (f i) < 5) → mk f seat m < 32
  | 0, _ => by show 0 < 32; omega
  | m + 1, h => by
    show (mk f seat m ||| 2 ^ cupd seat (f m)) < 2 ^ 5
    exact Nat.or_lt_two_pow (mk_lt (fun i hi => h i (by omega))) (Nat.pow_lt_pow_right (by omega) (h m (by omega)))
theorem cupsOnL {m seat : Nat} {f : Nat → Nat} {vC : Ob} (h : CR m f vC) (hs : seat < 5) : ∀ (u i : Nat), i ≤ m → m - i < u → m_X0_cupsOn_L4 vC u (nI seat) (nI (mk f seat i)) (nI i) = some (nI (mk f seat m))
  | 0, i, hi, hu => by omega
  | u + 1, i, hi, hu => by
    obtain ⟨h64, h2, h8, -⟩ := id h
    show m_X0_cupsOn_L4B vC (m_X0_cupsOn_L4 vC u) (nI seat) (nI (mk f seat i)) (nI i) = _
    unfold m_X0_cupsOn_L4B m_X0_cupOn
    rw [h2, show (64 : Int32) = nI 64 from rfl, nI_1]
    by_cases him : i < m
    · obtain ⟨e8, hl⟩ := h8 i him
      have hc8 : cupd seat (f i) < 8 := Nat.mod_lt _ (by omega)
      rw [if_neg (nI_ge him (by omega)), if_neg (nI_ge (by omega) (by omega)), grd_t (inb_nI (by omega) (by omega)), cl (by omega), e8, cup3 (by omega) hs, bnd_s]
      show m_X0_cupsOn_L4 vC u (nI seat) (nI (mk f seat i) ||| (1 : Int32) <<< (nI (cupd seat (f i)) &&& 31)) (nI (i + 1)) = _
      rw [shl1 _ (by omega), nx_or]
      exact cupsOnL h hs u (i + 1) (by omega) (by omega)
    · have : i = m := by omega
      subst this
      rw [if_pos (nI_le (by omega) (by omega))]
theorem cupsOnC {m seat : Nat} {f : Nat → Nat} {vC : Ob} (h : CR m f vC) (hs : seat < 5) : m_X0_cupsOn vC (nI seat) = some (nI (mk f seat m)) := by
  unfold m_X0_cupsOn
  have := h.1
  rw [show m_X0_cupsOn_L4 vC FU (nI seat) 0 0 = _ from cupsOnL h hs FU 0 (by omega) (by unfold FU; omega)]; rfl
theorem cupsAtL {k seat : Nat} {g : Nat → Nat} {vM : Ob} (h : MR k g vM) (hs : seat < 5) : ∀ (u i : Nat), i ≤ k → k - i < u → m_X6_cupsAt_L4 vM u (nI seat) (nI (mk g seat i)) (nI i) = some (nI (mk g seat k))
  | 0, i, hi, hu => by omega
  | u + 1, i, hi, hu => by
    obtain ⟨h64, h2, h8, -⟩ := id h
    show m_X6_cupsAt_L4B vM (m_X6_cupsAt_L4 vM u) (nI seat) (nI (mk g seat i)) (nI i) = _
    unfold m_X6_cupsAt_L4B
    rw [h2, nI_1]
    by_cases him : i < k
    · obtain ⟨e8, hl⟩ := h8 i him
      have hc8 : cupd seat (g i) < 8 := Nat.mod_lt _ (by omega)
      rw [if_neg (nI_ge him (by omega)), grd_t (inb_nI (by omega) (by omega)), cl (by omega), e8, cup3 (by omega) hs]
      show m_X6_cupsAt_L4 vM u (nI seat) (nI (mk g seat i) ||| (1 : Int32) <<< (nI (cupd seat (g i)) &&& 31)) (nI (i + 1)) = _
      rw [shl1 _ (by omega), nx_or]
      exact cupsAtL h hs u (i + 1) (by omega) (by omega)
    · have : i = k := by omega
      subst this
      rw [if_pos (nI_le (by omega) (by omega))]
theorem cupsAtM {k seat : Nat} {g : Nat → Nat} {vM : Ob} (h : MR k g vM) (hs : seat < 5) : m_X6_cupsAt vM (nI seat) = some (nI (mk g seat k)) := by
  unfold m_X6_cupsAt
  have := h.1
  rw [show m_X6_cupsAt_L4 vM FU (nI seat) 0 0 = _ from cupsAtL h hs FU 0 (by omega) (by unfold FU; omega)]; rfl
/-- the best taste, by both -/
theorem bestL {n : Nat} {vC vM : Ob} (M : Nat → Nat) (hn : n ≤ 5) (hM : ∀ s, s < n → M s < 32 ∧ m_X0_cupsOn vC (nI s) = some (nI (M s)) ∧ m_X6_cupsAt vM (nI s) = some (nI (M s))) : ∀ (u k : Nat) (b mo : Int32), k ≤ n → n - k < u → ∃ r, m_X0_bestTaste_L8 vC u (nI n) b mo (nI k) = some r ∧ m_X6_lie_L61 u vM (nI n) b mo (nI k) = some (vM, r)
  | 0, k, b, mo, hk, hu => by omega
  | u + 1, k, b, mo, hk, hu => by
    show ∃ r, m_X0_bestTaste_L8B vC (m_X0_bestTaste_L8 vC u) (nI n) b mo (nI k) = some r ∧ m_X6_lie_L61B (m_X6_lie_L61 u) vM (nI n) b mo (nI k) = some (vM, r)
    unfold m_X0_bestTaste_L8B m_X6_lie_L61B m_X0_bestTaste_j37 m_X6_lie_j91 m_X6_lie_j106
    rw [nI_1]
    by_cases hkn : k < n
    · obtain ⟨q1, q2, q3⟩ := hM k hkn
      rw [if_neg (nI_ge hkn (by omega)), if_neg (nI_ge hkn (by omega)), q2, q3, bnd_s, bnd_s, pop_C _ q1, pop_M _ q1, bnd_s, bnd_s]
      by_cases hp : nI (pop (M k)) ≤ mo
      · rw [if_pos hp, if_pos hp, if_pos hp]
        exact bestL M hn hM u (k + 1) b mo (by omega) (by omega)
      · rw [if_neg hp, if_neg hp, if_neg hp]
        exact bestL M hn hM u (k + 1) _ _ (by omega) (by omega)
    · rw [if_pos (nI_le (by omega) (by omega)), if_pos (nI_le (by omega) (by omega))]
      exact ⟨b, rfl, rfl⟩
theorem L129p {vM : Ob} {q : Nat} (hq : q < 5) : ∀ (u k : Nat) (a : Int32), k ≤ 5 → 5 - k < u → m_X6_lie_L129 u vM (nI (2 ^ q)) a (nI k) = some (vM, nI (2 ^ q), if k ≤ q then nI q else a)
  | 0, k, a, hk, hu => by omega
  | u + 1, k, a, hk, hu => by
    show m_X6_lie_L129B (m_X6_lie_L129 u) vM (nI (2 ^ q)) a (nI k) = _
    unfold m_X6_lie_L129B m_X6_lie_j150
    rw [show (5 : Int32) = nI 5 from rfl, nI_1]
    have h5 : (2 : Nat) ^ q < 2 ^ 5 := Nat.pow_lt_pow_right (by omega) hq
    by_cases hk5 : k < 5
    · have h5k : (2 : Nat) ^ k < 2 ^ 5 := Nat.pow_lt_pow_right (by omega) hk5
      rw [if_neg (nI_ge hk5 (by omega)), shl1 _ (by omega), if_nI (by omega) (by omega)]
      by_cases hqk : q = k
      · subst hqk
        rw [if_pos rfl, L129p hq u (q + 1) _ (by omega) (by omega), if_neg (by omega), if_pos (by omega)]
      · rw [if_neg (fun z => hqk ((Nat.pow_right_inj (by omega)).mp z)), L129p hq u (k + 1) _ (by omega) (by omega)]
        by_cases hle : k ≤ q
        · rw [if_pos (by omega), if_pos hle]
        · rw [if_neg (by omega), if_neg hle]
    · rw [if_pos (nI_le (by omega) (by omega)), if_neg (by omega)]
theorem L129n {vM : Ob} {S : Nat} (hS : S < 32) (hn : ∀ q, q < 5 → S ≠ 2 ^ q) : ∀ (u k : Nat) (a : Int32), k ≤ 5 → 5 - k < u → m_X6_lie_L129 u vM (nI S) a (nI k) = some (vM, nI S, a)
  | 0, k, a, hk, hu => by omega
  | u + 1, k, a, hk, hu => by
    show m_X6_lie_L129B (m_X6_lie_L129 u) vM (nI S) a (nI k) = _
    unfold m_X6_lie_L129B m_X6_lie_j150
    rw [show (5 : Int32) = nI 5 from rfl, nI_1]
    by_cases hk5 : k < 5
    · have h5k : (2 : Nat) ^ k < 2 ^ 5 := Nat.pow_lt_pow_right (by omega) hk5
      rw [if_neg (nI_ge hk5 (by omega)), shl1 _ (by omega), if_nI (by omega) (by omega), if_neg (hn k hk5), L129n hS hn u (k + 1) _ (by omega) (by omega)]
    · rw [if_pos (nI_le (by omega) (by omega))]
theorem pop1 : ∀ S, S < 32 → (pop S = 1 ↔ ∃ q, q < 5 ∧ S = 2 ^ q) := by decide +kernel
theorem pop0 : ∀ S, S < 32 → (pop S = 0 ↔ S = 0) := by decide +kernel
theorem pop_le : ∀ S, S < 32 → pop S ≤ 5 := by decide +kernel
theorem in64 (y a b : Int32) : m_X6_in (Int32.toInt64 y) (Int32.toInt64 a) (Int32.toInt64 b) = some (if a.toInt ≤ y.toInt ∧ y.toInt ≤ b.toInt then 1 else 0) := by
  rw [pw_in, Int32.toInt_toInt64, Int32.toInt_toInt64, Int32.toInt_toInt64]
theorem inA (y : Int32) : m_X6_in (Int32.toInt64 y) 2 5 = some (if 2 ≤ y.toInt ∧ y.toInt ≤ 5 then 1 else 0) := by
  rw [pw_in, Int32.toInt_toInt64, show (2 : Int64).toInt = 2 by decide, show (5 : Int64).toInt = 5 by decide]
theorem inB (y b : Int32) : m_X6_in (Int32.toInt64 y) (-2) (Int32.toInt64 b) = some (if (-2 : Int32).toInt ≤ y.toInt ∧ y.toInt ≤ b.toInt then 1 else 0) := by
  rw [pw_in, Int32.toInt_toInt64, Int32.toInt_toInt64, show (-2 : Int64).toInt = -2 by decide, show (-2 : Int32).toInt = -2 by decide]
theorem ls_20 (K : (Nat → Nat) → Ob → Prop) : LS20 (Inv K) := by
  intro j vX vR vY vC vW vD vS vI vJ vT vM uT hj hI y1 y2
  obtain ⟨hT, hM, ⟨c, x, e, y, ⟨a1, a2, a3, a4, a5⟩, b1, b2, b3, b4, b5⟩, ht⟩ := id hI
  unfold m_X5_lie m_X6_lie
  rw [pw_isWithin, inA, bnd_s, bnd_s, if_bi, if_bi, show (2 : Int32).toInt = 2 by decide, show (5 : Int32).toInt = 5 by decide]
  rcases is_or y1 6 (by omega) with ⟨n, hn, rfl⟩ | hb
  case inr =>
    rw [if_neg (by omega), if_neg (by omega)]
    exact ⟨_, _, rfl, rfl, rfl, hI.same⟩
  rw [nI_toInt (by omega)]
  by_cases hn2 : 2 ≤ n
  case neg =>
    rw [if_neg (by omega), if_neg (by omega)]
    exact ⟨_, _, rfl, rfl, rfl, hI.same⟩
  rw [if_pos (by omega), if_pos (by omega), pw_isWithin, inB, bnd_s, bnd_s, if_bi, if_bi]
  by_cases hw : (-2 : Int32).toInt ≤ y2.toInt ∧ y2.toInt ≤ (nI n - 1).toInt
  case neg =>
    rw [if_neg hw, if_neg hw]
    exact ⟨_, _, rfl, rfl, rfl, hI.same⟩
  rw [if_pos hw, if_pos hw]
  rw [show nI n - 1 = nI (n - 1) from pk_sub (b := 1) (by omega), nI_toInt (by omega), show (-2 : Int32).toInt = -2 by decide] at hw
  obtain ⟨m, f, vC', g1, g2, g3, g4⟩ := gatherC (by omega) a1 b1 a2 b2 a4 b4 (n := n)
  have hc6 := a1.1
  have hpw : (2 : Nat) ^ c ≤ 2 ^ 6 := Nat.pow_le_pow_right (by omega) (by omega)
  obtain ⟨k, g, vM', h1, h2, h3, h4⟩ := layR7 hn2 (by omega) a1 b1 FU 0 0 (fun _ => 0) (st vM 0 28 0) (Nat.zero_le _) (by unfold FU; omega) (by omega) ⟨by omega, rfl, fun i hi => by omega, fun i j hi => by omega⟩ a3 b3 a5 b5 (fun d => ⟨fun ⟨i, hi, _⟩ => by omega, fun ⟨s, hs, _⟩ => by omega⟩)
  have frM := (FX.st0 vM 0).trans h3
  have same : ∀ d, (∃ i, i < m ∧ f i = d) ↔ ∃ i, i < k ∧ g i = d := fun d => by
    rw [g4, h4]
    constructor
    · rintro ⟨⟨s, hs, rfl⟩, hok⟩
      have hr : ∀ q, q < n → Rw n x c s q < 8 := fun q hq => by have := Rw_lt (n := n) (by omega) (x := x) (k := c) (s := s) q (by omega); omega
      refine ⟨s, hs, soN_iff.mpr (fun i hi => ⟨(hok i hi).1, ?_⟩), rfl⟩
      have := (hok i hi).2
      rw [cd_cup hr (hok i hi).1] at this
      exact this
    · rintro ⟨s, hs, hso, rfl⟩
      have hr : ∀ q, q < n → Rw n x c s q < 8 := fun q hq => by have := Rw_lt (n := n) (by omega) (x := x) (k := c) (s := s) q (by omega); omega
      refine ⟨⟨s, hs, rfl⟩, fun i hi => ⟨(soN_iff.mp hso i hi).1, ?_⟩⟩
      rw [cd_cup hr (soN_iff.mp hso i hi).1]
      exact (soN_iff.mp hso i hi).2
  have hmk : m = k := by
    have q1 : m ≤ k := inj_le g2.2.2.2 (fun i hi => (same (f i)).mp ⟨i, hi, rfl⟩)
    have q2 : k ≤ m := inj_le h2.2.2.2 (fun i hi => (same (g i)).mpr ⟨i, hi, rfl⟩)
    omega
  have cup5 : ∀ s i, s < n → i < m → cupd s (f i) < 5 := fun s i hs hi => by
    obtain ⟨⟨q, hq, he⟩, -⟩ := (g4 (f i)).mp ⟨i, hi, rfl⟩
    have hr5 : ∀ q', q' < 5 → Rw n x c q q' < 5 := fun q' hq' => Rw_lt (n := n) (by omega) (x := x) (k := c) (s := q) q' hq'
    unfold cupd
    rw [he, cd_cup (fun q' hq' => by have := hr5 q' (by omega); omega) hs]
    exact hr5 s (by omega)
  have masks : ∀ s, s < n → mk f s m = mk g s k := fun s hs => by
    apply Nat.eq_of_testBit_eq
    intro b
    rw [Bool.eq_iff_iff, mk_bit, mk_bit]
    constructor
    · rintro ⟨i, hi, he⟩
      obtain ⟨i', hi', he'⟩ := (same (f i)).mp ⟨i, hi, rfl⟩
      exact ⟨i', hi', by rw [he']; exact he⟩
    · rintro ⟨i, hi, he⟩
      obtain ⟨i', hi', he'⟩ := (same (g i)).mpr ⟨i, hi, rfl⟩
      exact ⟨i', hi', by rw [he']; exact he⟩
  have inv : Inv K (j + 1) vX vR vY vC' vW vD vS vI vJ vT vM' uT := by
    refine ⟨hT.up (frM.2 6 (by omega)) (frM.1 6 (by omega) (by omega) (by omega)), hM.up (frM.1 1 (by omega) (by omega) (by omega)) (frM.1 3 (by omega) (by omega) (by omega)) (frM.1 4 (by omega) (by omega) (by omega)) (frM.1 5 (by omega) (by omega) (by omega)), ⟨c, x, e, y, ⟨a1, (g3.2 0 (by omega)).trans a2, (frM.2 8 (by omega)).trans a3, ?_, ?_⟩, b1, (g3.2 1 (by omega)).trans b2, (frM.2 10 (by omega)).trans b3, ?_, ?_⟩, ht⟩
    · rw [g3.1 4 (by omega) (by omega), g3.1 5 (by omega) (by omega)]; exact a4
    · rw [frM.1 8 (by omega) (by omega) (by omega)]; exact a5
    · rw [g3.1 6 (by omega) (by omega), g3.1 7 (by omega) (by omega)]; exact b4
    · rw [frM.1 10 (by omega) (by omega) (by omega)]; exact b5
  unfold m_X6_layRows
  rw [show m_X6_layRows_L7 FU (st vM 0 28 0) (nI n) 0 = some vM' from h1, bnd_s, bnd_s, g1, bnd_s]
  by_cases q1 : y2 = -1
  · rw [if_pos q1, if_pos q1]
    exact ⟨_, _, rfl, rfl, by show vC' 0 2 = vM' 0 28; rw [g2.2.1, h2.2.1, hmk], inv⟩
  rw [if_neg q1, if_neg q1]
  by_cases q2 : y2 = -2
  · rw [if_pos q2, if_pos q2]
    obtain ⟨r, r1, r2⟩ := bestL (fun s => mk f s m) (show n ≤ 5 by omega) (fun s hs => ⟨mk_lt (fun i hi => cup5 s i hs hi), cupsOnC g2 (by omega), by rw [masks s hs]; exact cupsAtM h2 (by omega)⟩) FU 0 (-9) 1 (by omega) (by unfold FU; omega)
    unfold m_X0_bestTaste
    rw [show m_X0_bestTaste_L8 vC' FU (nI n) (-9) 1 0 = some r from r1, show m_X6_lie_L61 FU vM' (nI n) (-9) 1 0 = some (vM', r) from r2, bnd_s, bnd_s, bnd_s]
    exact ⟨_, _, rfl, rfl, rfl, inv⟩
  rw [if_neg q2, if_neg q2]
  obtain ⟨s, hs, rfl⟩ : ∃ s, s < n ∧ y2 = nI s := by
    rcases is_or y2 n (by omega) with ⟨s, hs, he⟩ | hb
    · exact ⟨s, hs, he⟩
    · exfalso
      have z : y2.toInt = -1 ∨ y2.toInt = -2 := by omega
      rcases z with z | z
      · exact q1 (Int32.toInt_inj.mp (by rw [z]; decide))
      · exact q2 (Int32.toInt_inj.mp (by rw [z]; decide))
  have hlt := mk_lt (fun i hi => cup5 s i hs hi)
  unfold m_X0_surelyOn
  rw [cupsAtM h2 (by omega), bnd_s, ← masks s hs, g2.2.1, c0, cupsOnC g2 (by omega), bnd_s, pop_C _ hlt, bnd_s]
  by_cases hm0 : m = 0
  · rw [if_pos (by rw [hm0]; rfl)]
    have hz : mk f s m = 0 := by rw [hm0]; rfl
    rw [show m_X6_lie_L129 FU vM' (nI (mk f s m)) (-9) 0 = _ from L129n hlt (fun q hq => by rw [hz]; exact fun z => by have := Nat.two_pow_pos q; omega) FU 0 (-9) (by omega) (by unfold FU; omega), bnd_s, bnd_s]
    dsimp only
    rw [pop_M _ hlt, bnd_s, if_pos (by rw [hz]; decide)]
    exact ⟨_, _, rfl, rfl, rfl, inv⟩
  · rw [if_neg (nI_ne0 (by omega) (by have := g2.1; omega))]
    have hple := pop_le _ hlt
    have hne : pop (mk f s m) ≠ 0 := fun z => by
      have z' := (pop0 _ hlt).mp z
      have := (mk_bit (f := f) (seat := s) (cupd s (f 0)) (m := m)).mpr ⟨0, by omega, rfl⟩
      rw [z', Nat.zero_testBit] at this
      cases this
    rw [show (1 : Int32) = nI 1 from rfl, if_nI (by omega) (by omega)]
    by_cases hp1 : pop (mk f s m) = 1
    · obtain ⟨q, hq, he⟩ := (pop1 _ hlt).mp hp1
      have hcq : cupd s (f 0) = q := by
        have := (mk_bit (f := f) (seat := s) (cupd s (f 0)) (m := m)).mpr ⟨0, by omega, rfl⟩
        rw [he, Nat.testBit_two_pow, decide_eq_true_iff] at this
        exact this.symm
      obtain ⟨e8, hl8⟩ := g2.2.2.1 0 (by omega)
      rw [if_pos hp1]
      unfold m_X0_cupOn
      rw [e8, cup3 (by omega) (by omega), bnd_s, bnd_s]
      have hpm := pop_M _ hlt
      rw [he] at hpm ⊢
      rw [show m_X6_lie_L129 FU vM' (nI (2 ^ q)) (-9) 0 = _ from L129p hq FU 0 (-9) (by omega) (by unfold FU; omega), bnd_s]
      dsimp only
      rw [hpm, bnd_s, if_pos (nI_le (by rw [← he]; omega) (by omega)), if_pos (Nat.zero_le q)]
      exact ⟨_, _, rfl, rfl, by show nI (cupd s (f 0)) = nI q; rw [hcq], inv⟩
    · rw [if_neg hp1, bnd_s]
      rw [show m_X6_lie_L129 FU vM' (nI (mk f s m)) (-9) 0 = _ from L129n hlt (fun q hq he => hp1 ((pop1 _ hlt).mpr ⟨q, hq, he⟩)) FU 0 (-9) (by omega) (by unfold FU; omega), bnd_s]
      dsimp only
      rw [pop_M _ hlt, bnd_s, if_neg (nI_ge (by omega) (by omega))]
      exact ⟨_, _, rfl, rfl, rfl, inv⟩
