/-! PURE: rows of cups, the reference -/
def FX (a b : Ob) : Prop := (∀ r, r ≠ 0 → r ≠ 27 → r ≠ 28 → b r = a r) ∧ ∀ c, c ≠ 28 → b 0 c = a 0 c
theorem FX.refl (a : Ob) : FX a a := ⟨fun _ _ _ _ => rfl, fun _ _ => rfl⟩
theorem FX.trans {a b c : Ob} (h : FX a b) (h2 : FX b c) : FX a c := ⟨fun r h0 h3 h4 => (h2.1 r h0 h3 h4).trans (h.1 r h0 h3 h4), fun i hi => (h2.2 i hi).trans (h.2 i hi)⟩
theorem FX.st0 (a : Ob) (v : Int32) : FX a (st a 0 28 v) := ⟨fun _ h0 _ _ => st_row_ne _ _ _ h0, fun i hi => by rw [st_get, if_neg (fun z => hi z.2)]⟩
theorem FX.st27 (a : Ob) (c : Nat) (v : Int32) : FX a (st a 27 c v) := ⟨fun _ _ h2 _ => st_row_ne _ _ _ h2, fun i hi => by rw [st_get, if_neg (by omega)]⟩
theorem FX.st28 (a : Ob) (c : Nat) (v : Int32) : FX a (st a 28 c v) := ⟨fun _ _ _ h2 => st_row_ne _ _ _ h2, fun i hi => by rw [st_get, if_neg (by omega)]⟩
/-- rows 28 and how many are kept -/
def KR (a b : Ob) : Prop := b 28 = a 28 ∧ b 0 28 = a 0 28 ∧ FX a b
theorem KR.refl (a : Ob) : KR a a := ⟨rfl, rfl, FX.refl _⟩
theorem KR.trans {a b c : Ob} (h : KR a b) (h2 : KR b c) : KR a c := ⟨h2.1.trans h.1, h2.2.1.trans h.2.1, h.2.2.trans h2.2.2⟩
theorem KR.st27 (a : Ob) (c : Nat) (v : Int32) : KR a (st a 27 c v) := ⟨rfl, rfl, FX.st27 _ _ _⟩
theorem layC2 (p q : Int32) : ∀ (u k : Nat) (vM : Ob), k ≤ 5 → 5 - k < u → (∀ j, j < k → vM 27 j = nI j) → ∃ vM', m_X6_layCups_L2 u vM p q (nI k) = some (vM', p, q) ∧ KR vM vM' ∧ ∀ j, j < 5 → vM' 27 j = nI j
  | 0, k, vM, hk, hu, h => by omega
  | u + 1, k, vM, hk, hu, h => by
    show ∃ vM', m_X6_layCups_L2B (m_X6_layCups_L2 u) vM p q (nI k) = some (vM', p, q) ∧ _
    unfold m_X6_layCups_L2B
    rw [show (5 : Int32) = nI 5 from rfl]
    by_cases h5 : k < 5
    · rw [if_neg (nI_ge h5 (by omega)), grd_t (inb_nI (by omega) (by omega)), cl (by omega), nI_1]
      obtain ⟨vM', a1, a2, a3⟩ := layC2 p q u (k + 1) (st vM 27 k (nI k)) (by omega) (by omega) (fun j hj => by
        show upd (vM 27) k (nI k) j = nI j
        by_cases hjk : j = k
        · rw [hjk, upd_eq]
        · rw [upd_ne _ _ hjk]; exact h j (by omega))
      exact ⟨vM', a1, (KR.st27 _ _ _).trans a2, a3⟩
    · rw [if_pos (nI_le (by omega) (by omega))]
      exact ⟨vM, rfl, KR.refl _, fun j hj => h j (by omega)⟩
theorem hold6 : ∀ s, s < 64 → ∀ k, k < 6 → m_X6_holds (nI s) (nI k) = some (if s.testBit k = true then 1 else 0) := by decide +kernel
theorem layC22 {n c s : Nat} {x : Nat → Nat} (hn : n ≤ 5) (hs : s < 64) (hP : PV c x) : ∀ (u k : Nat) (vM : Ob), k ≤ c → c - k < u → vM 0 8 = nI c → PM c x (vM 8) → (∀ j, j < 5 → vM 27 j = nI (Rw n x k s j)) → ∃ vM', m_X6_layCups_L22 u vM (nI n) (nI s) (nI k) = some (vM', nI n) ∧ KR vM vM' ∧ ∀ j, j < 5 → vM' 27 j = nI (Rw n x c s j)
  | 0, k, vM, hk, hu, h8, hpm, h => by omega
  | u + 1, k, vM, hk, hu, h8, hpm, h => by
    have hc6 := hP.1
    show ∃ vM', m_X6_layCups_L22B (m_X6_layCups_L22 u) vM (nI n) (nI s) (nI k) = some (vM', nI n) ∧ _
    unfold m_X6_layCups_L22B m_X6_layCups_j104
    rw [h8, show (2 : Int32) * nI k = nI (2 * k) from pk_mul 2 k, nI_1, nI_1]
    by_cases hkc : k < c
    · obtain ⟨p1, p2⟩ := hpm k hkc
      have x1 := hP.2 (2 * k) (by omega)
      have x2 := hP.2 (2 * k + 1) (by omega)
      rw [if_neg (nI_ge hkc (by omega)), grd_t (inb_nI (by omega) (by omega)), grd_t (inb_nI (by omega) (by omega)), cl (by omega), cl (by omega), p1, p2, hold6 s hs k (by omega), bnd_s, if_bi]
      have hskip : ¬ (s.testBit k = true ∧ x (2 * k) < n ∧ x (2 * k + 1) < n) → ∃ vM', m_X6_layCups_L22 u vM (nI n) (nI s) (nI (k + 1)) = some (vM', nI n) ∧ KR vM vM' ∧ ∀ j, j < 5 → vM' 27 j = nI (Rw n x c s j) := fun hz =>
        layC22 hn hs hP u (k + 1) vM (by omega) (by omega) h8 hpm (fun j hj => by rw [h j hj]; show _ = nI ((if s.testBit k = true ∧ x (2 * k) < n ∧ x (2 * k + 1) < n then swp (x (2 * k)) (x (2 * k + 1)) (Rw n x k s) else Rw n x k s) j); rw [if_neg hz])
      by_cases hb : s.testBit k = true
      · rw [if_pos hb]
        by_cases ha : x (2 * k) < n
        · rw [if_neg (nI_ge ha (by omega))]
          by_cases ha2 : x (2 * k + 1) < n
          · rw [if_neg (nI_ge ha2 (by omega)), grd_t (inb_nI (by omega) (by omega)), grd_t (inb_nI (by omega) (by omega)), grd_t (inb_nI (by omega) (by omega)), grd_t (inb_nI (by omega) (by omega)), cl (by omega), cl (by omega), h _ x1, h _ x2]
            obtain ⟨vM', a1, a2, a3⟩ := layC22 hn hs hP u (k + 1) (st (st vM 27 (x (2 * k)) (nI (Rw n x k s (x (2 * k + 1))))) 27 (x (2 * k + 1)) (nI (Rw n x k s (x (2 * k))))) (by omega) (by omega) h8 hpm (fun j hj => by
              show upd (upd (vM 27) (x (2 * k)) (nI (Rw n x k s (x (2 * k + 1))))) (x (2 * k + 1)) (nI (Rw n x k s (x (2 * k)))) j = nI ((if s.testBit k = true ∧ x (2 * k) < n ∧ x (2 * k + 1) < n then swp (x (2 * k)) (x (2 * k + 1)) (Rw n x k s) else Rw n x k s) j)
              rw [if_pos ⟨hb, ha, ha2⟩]
              unfold swp
              by_cases j2 : j = x (2 * k + 1)
              · by_cases j1 : j = x (2 * k)
                · rw [if_pos j1, ← j2, upd_eq, j1]
                · rw [if_neg j1, if_pos j2, ← j2, upd_eq]
              · rw [upd_ne _ _ j2]
                by_cases j1 : j = x (2 * k)
                · rw [if_pos j1, ← j1, upd_eq]
                · rw [if_neg j1, if_neg j2, upd_ne _ _ j1]; exact h j hj)
            exact ⟨vM', a1, ((KR.st27 _ _ _).trans (KR.st27 _ _ _)).trans a2, a3⟩
          · rw [if_pos (nI_le (by omega) (by omega))]
            exact hskip (fun z => ha2 z.2.2)
        · rw [if_pos (nI_le (by omega) (by omega))]
          exact hskip (fun z => ha z.2.1)
      · rw [if_neg hb]
        exact hskip (fun z => hb z.1)
    · have : k = c := by omega
      subst this
      rw [if_pos (nI_le (by omega) (by omega))]
      exact ⟨vM, rfl, KR.refl _, h⟩
/-- whether all that was tasted is so, of the first k -/
def soN (n : Nat) (y r : Nat → Nat) : Nat → Bool
  | 0 => true
  | k + 1 => soN n y r k && (decide (y (2 * k) < n) && decide (r (y (2 * k)) = y (2 * k + 1)))
theorem soN_iff {n : Nat} {y r : Nat → Nat} : ∀ {e : Nat}, soN n y r e = true ↔ ∀ k, k < e → y (2 * k) < n ∧ r (y (2 * k)) = y (2 * k + 1)
  | 0 => ⟨fun _ k hk => by omega, fun _ => rfl⟩
  | e + 1 => by
    show (soN n y r e && (decide (y (2 * e) < n) && decide (r (y (2 * e)) = y (2 * e + 1)))) = true ↔ _
    rw [Bool.and_eq_true, Bool.and_eq_true, decide_eq_true_iff, decide_eq_true_iff, soN_iff]
    constructor
    · rintro ⟨h1, h2⟩ k hk
      by_cases hke : k = e
      · rw [hke]; exact h2
      · exact h1 k (by omega)
    · intro h
      exact ⟨fun k hk => h k (by omega), h e (by omega)⟩
theorem layC115 {n e : Nat} {y r : Nat → Nat} (hn : n ≤ 5) (hP : PV e y) (hr5 : ∀ j, j < 5 → r j < 5) : ∀ (u k : Nat) (vM : Ob), k ≤ e → e - k < u → vM 0 10 = nI e → PM e y (vM 10) → (∀ j, j < 5 → vM 27 j = nI (r j)) → m_X6_layCups_L115 u vM (nI n) (if soN n y r k = true then 1 else 0) (nI k) = some (vM, if soN n y r e = true then 1 else 0)
  | 0, k, vM, hk, hu, h10, hpm, h => by omega
  | u + 1, k, vM, hk, hu, h10, hpm, h => by
    have hc6 := hP.1
    show m_X6_layCups_L115B (m_X6_layCups_L115 u) vM (nI n) (if soN n y r k = true then 1 else 0) (nI k) = _
    unfold m_X6_layCups_L115B m_X6_layCups_j173 m_X6_layCups_j174
    rw [h10, show (2 : Int32) * nI k = nI (2 * k) from pk_mul 2 k, nI_1, nI_1]
    by_cases hke : k < e
    · obtain ⟨p1, p2⟩ := hpm k hke
      have x1 := hP.2 (2 * k) (by omega)
      have x2 := hP.2 (2 * k + 1) (by omega)
      have ih := layC115 hn hP hr5 u (k + 1) vM (by omega) (by omega) h10 hpm h
      have es : soN n y r (k + 1) = (soN n y r k && (decide (y (2 * k) < n) && decide (r (y (2 * k)) = y (2 * k + 1)))) := rfl
      rw [if_neg (nI_ge hke (by omega)), if_bi]
      by_cases hb : soN n y r k = true
      · have hr := hr5 (y (2 * k)) x1
        rw [if_pos hb, grd_t (inb_nI (by omega) (by omega)), cl (by omega), cl (by omega), p1, p2]
        by_cases ha : y (2 * k) < n
        · rw [if_neg (nI_ge ha (by omega)), grd_t (inb_nI (by omega) (by omega)), grd_t (inb_nI (by omega) (by omega)), grd_t (inb_nI (by omega) (by omega)), cl (by omega), h _ x1, if_nI (by omega) (by omega)]
          by_cases hq : r (y (2 * k)) = y (2 * k + 1)
          · rw [if_pos hq, ← ih, es, hb, decide_eq_true ha, decide_eq_true hq]; rfl
          · rw [if_neg hq, ← ih, es, hb, decide_eq_true ha, decide_eq_false hq]; rfl
        · rw [if_pos (nI_le (by omega) (by omega)), ← ih, es, hb, decide_eq_false ha]; rfl
      · have hb' : soN n y r k = false := by simpa using hb
        rw [if_neg hb, ← ih, es, hb']; rfl
    · have : k = e := by omega
      subst this
      rw [if_pos (nI_le (by omega) (by omega))]
theorem layCupsM {n c e s : Nat} {x y : Nat → Nat} {vM : Ob} (hn : n ≤ 5) (hs : s < 64) (hP : PV c x) (hQ : PV e y) (h8 : vM 0 8 = nI c) (h10 : vM 0 10 = nI e) (hpm : PM c x (vM 8)) (hqm : PM e y (vM 10)) : ∃ vM', m_X6_layCups vM (nI n) (nI s) = some (if soN n y (Rw n x c s) e = true then 1 else 0, vM') ∧ KR vM vM' ∧ ∀ j, j < 5 → vM' 27 j = nI (Rw n x c s j) := by
  have hc6 := hP.1
  have he6 := hQ.1
  obtain ⟨v1, a1, a2, a3⟩ := layC2 (nI n) (nI s) FU 0 vM (by omega) (by unfold FU; omega) (fun j hj => by omega)
  obtain ⟨v2, b1, b2, b3⟩ := layC22 hn hs hP FU 0 v1 (by omega) (by unfold FU; omega) ((a2.2.2.2 8 (by omega)).trans h8) (by rw [a2.2.2.1 8 (by omega) (by omega) (by omega)]; exact hpm) a3
  have k2 := a2.trans b2
  have c1 := layC115 (r := Rw n x c s) hn hQ (fun j hj => Rw_lt hn j hj) FU 0 v2 (by omega) (by unfold FU; omega) ((k2.2.2.2 10 (by omega)).trans h10) (by rw [k2.2.2.1 10 (by omega) (by omega) (by omega)]; exact hqm) b3
  unfold m_X6_layCups
  rw [show (0 : Int32) = nI 0 from rfl, a1, bnd_s]
  dsimp only
  rw [b1, bnd_s]
  dsimp only
  rw [show m_X6_layCups_L115 FU v2 (nI n) 1 (nI 0) = _ from c1, bnd_s]
  refine ⟨v2, ?_, k2, b3⟩
  exact grd_t (bz_bi _) _
theorem layR32 {r : Nat → Nat} {vM : Ob} (hr5 : ∀ j, j < 5 → r j < 5) (h : ∀ j, j < 5 → vM 27 j = nI (r j)) (p q b : Int32) : ∀ (k u acc : Nat), k < 5 → k + 1 < u → m_X6_layRows_L32 u vM p q b (nI acc) (nI k) = some (vM, p, q, b, nI (acc * 2 ^ (3 * (k + 1)) + cd (k + 1) r))
  | 0, u + 2, acc, hk, hu => by
    show m_X6_layRows_L32B (m_X6_layRows_L32 (u + 1)) vM p q b (nI acc) (nI 0) = _
    unfold m_X6_layRows_L32B
    rw [if_neg (nI_pos (by omega)), grd_t (inb_nI (by omega) (by omega)), cl (by omega), h 0 (by omega), show (8 : Int32) * nI acc = nI (8 * acc) from pk_mul 8 acc, nI_add]
    show m_X6_layRows_L32B (m_X6_layRows_L32 u) vM p q b (nI (8 * acc + r 0)) (nI 0 + -1) = _
    unfold m_X6_layRows_L32B
    rw [if_pos (by decide)]
    show _ = some (vM, p, q, b, nI (acc * 2 ^ (3 * (0 + 1)) + (2 ^ (3 * 0) * r 0 + 0)))
    rw [show 8 * acc + r 0 = acc * 2 ^ (3 * (0 + 1)) + (2 ^ (3 * 0) * r 0 + 0) by omega]
  | k + 1, u + 1, acc, hk, hu => by
    show m_X6_layRows_L32B (m_X6_layRows_L32 u) vM p q b (nI acc) (nI (k + 1)) = _
    unfold m_X6_layRows_L32B
    rw [if_neg (nI_pos (by omega)), grd_t (inb_nI (by omega) (by omega)), cl (by omega), h (k + 1) (by omega), show (8 : Int32) * nI acc = nI (8 * acc) from pk_mul 8 acc, nI_add, pk_m1, layR32 hr5 h p q b k u _ (by omega) (by omega)]
    have e : (8 * acc + r (k + 1)) * 2 ^ (3 * (k + 1)) + cd (k + 1) r = acc * 2 ^ (3 * (k + 1 + 1)) + cd (k + 1 + 1) r := by
      show _ = acc * 2 ^ (3 * (k + 1 + 1)) + (2 ^ (3 * (k + 1)) * r (k + 1) + cd (k + 1) r)
      rw [show 3 * (k + 1 + 1) = 3 * (k + 1) + 3 by omega, Nat.pow_add, Nat.add_mul, Nat.mul_comm (r (k + 1)), show acc * (2 ^ (3 * (k + 1)) * 2 ^ 3) = 8 * acc * 2 ^ (3 * (k + 1)) by rw [show (2 : Nat) ^ 3 = 8 from rfl, Nat.mul_comm (2 ^ (3 * (k + 1))) 8, ← Nat.mul_assoc, Nat.mul_comm acc 8]]
      omega
    rw [e]
/-- k unlike rows g of the reference -/
def MR (k : Nat) (g : Nat → Nat) (vM : Ob) : Prop := k ≤ 64 ∧ vM 0 28 = nI k ∧ (∀ i, i < k → vM 28 i = nI (g i) ∧ g i < 2 ^ 15) ∧ ∀ i j, i < k → j < k → g i = g j → i = j
/-- no row among the first i is d -/
def noN (g : Nat → Nat) (d : Nat) : Nat → Bool
  | 0 => true
  | i + 1 => noN g d i && !decide (g i = d)
theorem noN_iff {g : Nat → Nat} {d : Nat} : ∀ {k : Nat}, noN g d k = true ↔ ∀ i, i < k → g i ≠ d
  | 0 => ⟨fun _ i hi => by omega, fun _ => rfl⟩
  | k + 1 => by
    show (noN g d k && !decide (g k = d)) = true ↔ _
    rw [Bool.and_eq_true, noN_iff]
    constructor
    · rintro ⟨h1, h2⟩ i hi
      by_cases hik : i = k
      · rw [hik]; simpa using h2
      · exact h1 i (by omega)
    · intro h
      exact ⟨fun i hi => h i (by omega), by simpa using h k (by omega)⟩
theorem layR61 {k : Nat} {g : Nat → Nat} {vM : Ob} (h : MR k g vM) {d : Nat} (hd : d < 2 ^ 15) (b : Bool) (p q : Int32) : ∀ (u i : Nat), i ≤ k → k - i < u → m_X6_layRows_L61 u vM p q (if (b && noN g d i) = true then 1 else 0) (nI d) (nI i) = some (vM, p, q, if (b && noN g d k) = true then 1 else 0, nI d)
  | 0, i, hi, hu => by omega
  | u + 1, i, hi, hu => by
    obtain ⟨h64, h2, h8, -⟩ := id h
    show m_X6_layRows_L61B (m_X6_layRows_L61 u) vM p q (if (b && noN g d i) = true then 1 else 0) (nI d) (nI i) = _
    unfold m_X6_layRows_L61B m_X6_layRows_j90 m_X6_layRows_j91
    rw [h2, nI_1]
    by_cases hik : i < k
    · have ih := layR61 h hd b p q u (i + 1) (by omega) (by omega)
      have es : (b && noN g d (i + 1)) = ((b && noN g d i) && !decide (g i = d)) := by show (b && (noN g d i && _)) = _; rw [Bool.and_assoc]
      obtain ⟨e8, hl⟩ := h8 i hik
      rw [if_neg (nI_ge hik (by omega)), if_bi]
      by_cases hb : (b && noN g d i) = true
      · rw [if_pos hb, grd_t (inb_nI (by omega) (by omega)), cl (by omega), e8, if_nI (by omega) (by omega)]
        by_cases hq : g i = d
        · rw [if_pos hq, ← ih, es, decide_eq_true hq, Bool.not_true, Bool.and_false]; rfl
        · rw [if_neg hq, ← ih, es, hb, decide_eq_false hq]; rfl
      · have hb' : (b && noN g d i) = false := by simpa using hb
        rw [if_neg hb, ← ih, es, hb']; rfl
    · have : i = k := by omega
      subst this
      rw [if_pos (nI_le (by omega) (by omega))]
theorem shl1 : ∀ c, c < 31 → (1 : Int32) <<< (nI c &&& 31) = nI (2 ^ c) := by decide +kernel
theorem layR7 {n c e : Nat} {x y : Nat → Nat} (hn2 : 2 ≤ n) (hn : n ≤ 5) (hP : PV c x) (hQ : PV e y) : ∀ (u s k : Nat) (g : Nat → Nat) (vM : Ob), s ≤ 2 ^ c → 2 ^ c - s < u → k ≤ s → MR k g vM → vM 0 8 = nI c → vM 0 10 = nI e → PM c x (vM 8) → PM e y (vM 10) → (∀ d, (∃ i, i < k ∧ g i = d) ↔ ∃ s', s' < s ∧ soN n y (Rw n x c s') e = true ∧ d = cd n (Rw n x c s')) → ∃ (k' : Nat) (g' : Nat → Nat) (vM' : Ob), m_X6_layRows_L7 u vM (nI n) (nI s) = some vM' ∧ MR k' g' vM' ∧ FX vM vM' ∧ ∀ d, (∃ i, i < k' ∧ g' i = d) ↔ ∃ s', s' < 2 ^ c ∧ soN n y (Rw n x c s') e = true ∧ d = cd n (Rw n x c s')
  | 0, s, k, g, vM, hs, hu, hk, h, h8, h10, hpm, hqm, hS => by omega
  | u + 1, s, k, g, vM, hs, hu, hk, h, h8, h10, hpm, hqm, hS => by
    have hc6 := hP.1
    have hpw : (2 : Nat) ^ c ≤ 2 ^ 6 := Nat.pow_le_pow_right (by omega) (by omega)
    show ∃ (k' : Nat) (g' : Nat → Nat) (vM' : Ob), m_X6_layRows_L7B (m_X6_layRows_L7 u) vM (nI n) (nI s) = some vM' ∧ _
    unfold m_X6_layRows_L7B m_X6_layRows_j124 m_X6_layRows_j139
    rw [h8, shl1 c (by omega)]
    by_cases hsc : s < 2 ^ c
    · obtain ⟨v1, a1, a2, a3⟩ := layCupsM hn (by omega) hP hQ h8 h10 hpm hqm (s := s)
      have hr5 : ∀ j, j < 5 → Rw n x c s j < 5 := fun j hj => Rw_lt hn j hj
      have hcl : cd n (Rw n x c s) < 2 ^ 15 := Nat.lt_of_lt_of_le (cd_lt (fun q hq => by have := hr5 q (by omega); omega)) (Nat.pow_le_pow_right (by omega) (by omega))
      have h' : MR k g v1 := by
        obtain ⟨y1, y2, y3, y4⟩ := h
        exact ⟨y1, a2.2.1.trans y2, by rw [a2.1]; exact y3, y4⟩
      have e32 := layR32 hr5 a3 (nI n) (nI s) (if soN n y (Rw n x c s) e = true then 1 else 0) (n - 1) FU 0 (by omega) (by unfold FU; omega)
      rw [show n - 1 + 1 = n by omega, Nat.zero_mul, Nat.zero_add] at e32
      have e61 := layR61 h' hcl (soN n y (Rw n x c s) e) (nI n) (nI s) FU 0 (by omega) (by have := h.1; unfold FU; omega)
      rw [show (soN n y (Rw n x c s) e && noN g (cd n (Rw n x c s)) 0) = soN n y (Rw n x c s) e from Bool.and_true _] at e61
      rw [if_neg (nI_ge hsc (by omega)), a1, bnd_s]
      dsimp only
      rw [nI_0] at e32 e61
      rw [show nI n - 1 = nI (n - 1) from pk_sub (b := 1) (by omega), e32, bnd_s]
      dsimp only
      rw [e61, bnd_s]
      dsimp only
      rw [if_bi, if_bi, h'.2.1, grd_t (inb_nI (by omega) (by omega)), grd_t (inb_nI (by omega) (by omega)), grd_t (inb_nI (by omega) (by omega)), cl (by omega), nI_1, nI_1]
      by_cases hb : (soN n y (Rw n x c s) e && noN g (cd n (Rw n x c s)) k) = true
      · rw [if_pos hb, if_pos hb]
        have hb' := hb
        rw [Bool.and_eq_true, noN_iff] at hb'
        obtain ⟨hso, hno⟩ := hb'
        have fr : FX vM (st (st v1 28 k (nI (cd n (Rw n x c s)))) 0 28 (nI (k + 1))) := (a2.2.2.trans (FX.st28 _ _ _)).trans (FX.st0 _ _)
        obtain ⟨y1, y2, y3, y4⟩ := h'
        obtain ⟨k', g', vM', z1, z2, z3, z4⟩ := layR7 hn2 hn hP hQ u (s + 1) (k + 1) (fun i => if i = k then cd n (Rw n x c s) else g i) (st (st v1 28 k (nI (cd n (Rw n x c s)))) 0 28 (nI (k + 1))) (by omega) (by omega) (by omega) ⟨by omega, rfl, fun i hi => by
            show upd (v1 28) k (nI (cd n (Rw n x c s))) i = nI (if i = k then cd n (Rw n x c s) else g i) ∧ (if i = k then cd n (Rw n x c s) else g i) < 2 ^ 15
            by_cases hik : i = k
            · rw [hik, upd_eq, if_pos rfl]; exact ⟨rfl, hcl⟩
            · rw [upd_ne _ _ hik, if_neg hik]; exact y3 i (by omega), fun i j hi hj he => by
            have he' : (if i = k then cd n (Rw n x c s) else g i) = (if j = k then cd n (Rw n x c s) else g j) := he
            by_cases h3 : i = k
            · by_cases h4 : j = k
              · omega
              · rw [if_pos h3, if_neg h4] at he'
                exact absurd he'.symm (hno j (by omega))
            · by_cases h4 : j = k
              · rw [if_neg h3, if_pos h4] at he'
                exact absurd he' (hno i (by omega))
              · rw [if_neg h3, if_neg h4] at he'
                exact y4 i j (by omega) (by omega) he'⟩ ((fr.2 8 (by omega)).trans h8) ((fr.2 10 (by omega)).trans h10) (by rw [fr.1 8 (by omega) (by omega) (by omega)]; exact hpm) (by rw [fr.1 10 (by omega) (by omega) (by omega)]; exact hqm) (fun d => by
            constructor
            · rintro ⟨i, hi, he⟩
              have he' : (if i = k then cd n (Rw n x c s) else g i) = d := he
              by_cases hik : i = k
              · rw [if_pos hik] at he'
                exact ⟨s, by omega, hso, he'.symm⟩
              · rw [if_neg hik] at he'
                obtain ⟨s', q1, q2⟩ := (hS d).mp ⟨i, by omega, he'⟩
                exact ⟨s', by omega, q2⟩
            · rintro ⟨s', q1, q2, q3⟩
              by_cases hss : s' = s
              · exact ⟨k, by omega, by show (if k = k then cd n (Rw n x c s) else g k) = d; rw [if_pos rfl, q3, hss]⟩
              · obtain ⟨i, i1, i2⟩ := (hS d).mpr ⟨s', by omega, q2, q3⟩
                exact ⟨i, by omega, by show (if i = k then cd n (Rw n x c s) else g i) = d; rw [if_neg (by omega)]; exact i2⟩)
        exact ⟨k', g', vM', z1, z2, fr.trans z3, z4⟩
      · rw [if_neg hb, if_neg hb]
        have fr : FX vM (st (st v1 28 k (v1 28 k)) 0 28 (nI k + 0)) := (a2.2.2.trans (FX.st28 _ _ _)).trans (FX.st0 _ _)
        rw [st_self v1 28 k rfl, show nI k + (0 : Int32) = nI k from nI_add k 0] at fr
        rw [st_self v1 28 k rfl, show nI k + (0 : Int32) = nI k from nI_add k 0]
        obtain ⟨y1, y2, y3, y4⟩ := h'
        obtain ⟨k', g', vM', z1, z2, z3, z4⟩ := layR7 hn2 hn hP hQ u (s + 1) k g (st v1 0 28 (nI k)) (by omega) (by omega) (by omega) ⟨y1, rfl, y3, y4⟩ ((fr.2 8 (by omega)).trans h8) ((fr.2 10 (by omega)).trans h10) (by rw [fr.1 8 (by omega) (by omega) (by omega)]; exact hpm) (by rw [fr.1 10 (by omega) (by omega) (by omega)]; exact hqm) (fun d => by
            rw [hS]
            constructor
            · rintro ⟨s', q1, q2⟩
              exact ⟨s', by omega, q2⟩
            · rintro ⟨s', q1, q2, q3⟩
              by_cases hss : s' = s
              · have hno : ¬ noN g (cd n (Rw n x c s)) k = true := fun z => hb (by rw [Bool.and_eq_true]; exact ⟨hss ▸ q2, z⟩)
                rw [noN_iff] at hno
                obtain ⟨i, hi, he⟩ : ∃ i, i < k ∧ g i = cd n (Rw n x c s) := by
                  apply Classical.byContradiction
                  intro hc
                  exact hno (fun i hi he => hc ⟨i, hi, he⟩)
                have := (hS (g i)).mp ⟨i, hi, rfl⟩
                rw [hss] at q3
                rw [he, ← q3] at this
                exact this
              · exact ⟨s', by omega, q2, q3⟩)
        exact ⟨k', g', vM', z1, z2, fr.trans z3, z4⟩
    · have : s = 2 ^ c := by omega
      subst this
      rw [if_pos (nI_le (by omega) (by omega))]
      exact ⟨k, g, vM, rfl, h, FX.refl _, hS⟩
