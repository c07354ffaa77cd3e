/-! PURE: tokens. What a token is, in numbers: both readers find the same. -/
def isL (c : Nat) : Bool := decide (97 ≤ c) && decide (c ≤ 122)
def isD (c : Nat) : Bool := decide (48 ≤ c) && decide (c ≤ 57)
def isB (c : Nat) : Bool := decide (c = 32)
def runN (P : Nat → Bool) (x : Nat → Nat) : Nat → Nat → Nat
  | 0, i => i
  | f + 1, i => if P (x i) = true then runN P x f (i + 1) else i
def run (P : Nat → Bool) (x : Nat → Nat) (n i : Nat) : Nat := runN P x (n - i) i
theorem run_step {P : Nat → Bool} {x : Nat → Nat} {n i : Nat} (hi : i < n) (h : P (x i) = true) : run P x n i = run P x n (i + 1) := by
  unfold run
  rw [show n - i = (n - (i + 1)) + 1 by omega]
  show (if P (x i) = true then runN P x (n - (i + 1)) (i + 1) else i) = _
  rw [if_pos h]
theorem run_stop {P : Nat → Bool} {x : Nat → Nat} {n i : Nat} (hi : i < n) (h : P (x i) = false) : run P x n i = i := by
  unfold run
  rw [show n - i = (n - (i + 1)) + 1 by omega]
  show (if P (x i) = true then runN P x (n - (i + 1)) (i + 1) else i) = _
  rw [if_neg (by rw [h]; decide)]
theorem run_end {P : Nat → Bool} {x : Nat → Nat} {n i : Nat} (hi : n ≤ i) : run P x n i = i := by
  unfold run
  rw [show n - i = 0 by omega]; rfl
theorem run_facts {P : Nat → Bool} {x : Nat → Nat} {n : Nat} : ∀ (d i : Nat), i ≤ n → n - i = d → i ≤ run P x n i ∧ run P x n i ≤ n ∧ (run P x n i = n ∨ P (x (run P x n i)) = false)
  | 0, i, hi, hd => by
    rw [run_end (by omega)]
    exact ⟨Nat.le_refl _, hi, Or.inl (by omega)⟩
  | d + 1, i, hi, hd => by
    have hin : i < n := by omega
    cases hp : P (x i) with
    | true =>
      rw [run_step hin hp]
      have := run_facts (P := P) (x := x) (n := n) d (i + 1) (by omega) (by omega)
      exact ⟨by omega, this.2.1, this.2.2⟩
    | false =>
      rw [run_stop hin hp]
      exact ⟨Nat.le_refl _, hi, Or.inr hp⟩
theorem st_st (E : Ob) (r i : Nat) (u v : Int32) : st (st E r i u) r i v = st E r i v := by
  funext r' c'
  rw [st_get, st_get, st_get]
  by_cases h : r' = r ∧ c' = i
  · rw [if_pos h, if_pos h]
  · rw [if_neg h, if_neg h, if_neg h]
theorem st_self (E : Ob) (r i : Nat) {v : Int32} (h : E r i = v) : st E r i v = E := by
  funext r' c'
  rw [st_get]
  by_cases h' : r' = r ∧ c' = i
  · rw [if_pos h', h'.1, h'.2, h]
  · rw [if_neg h']
theorem st_comm (E : Ob) {r i r2 i2 : Nat} (u v : Int32) (h : ¬ (r = r2 ∧ i = i2)) : st (st E r i u) r2 i2 v = st (st E r2 i2 v) r i u := by
  funext r' c'
  rw [st_get, st_get, st_get, st_get]
  by_cases h1 : r' = r2 ∧ c' = i2
  · rw [if_pos h1, if_neg (fun z => h ⟨z.1.symm.trans h1.1, z.2.symm.trans h1.2⟩), if_pos h1]
  · rw [if_neg h1, if_neg h1]
theorem st4 (E : Ob) {r i i2 : Nat} (u v u' v' : Int32) (h : i ≠ i2) : st (st (st (st E r i u) r i2 v) r i u') r i2 v' = st (st E r i u') r i2 v' := by
  rw [st_comm (st E r i u) _ _ (fun z => h z.2.symm), st_st, st_st]
theorem isLetterC {c : Nat} (h : c < 256) : m_X1_isLetter (nI c) = some (if isL c = true then 1 else 0) := by
  unfold m_X1_isLetter isL
  rw [show (97 : Int32) = nI 97 from rfl, show (122 : Int32) = nI 122 from rfl]
  by_cases h1 : c < 97
  · rw [if_pos (nI_lt h1 (by omega)), if_neg (by simp; omega)]
  · rw [if_neg (nI_nlt (by omega) (by omega))]
    by_cases h2 : 122 < c
    · rw [if_pos (nI_lt h2 (by omega)), if_neg (by simp; omega)]
    · rw [if_neg (nI_nlt (by omega) (by omega)), if_pos (by simp; omega)]
theorem isDigitC {c : Nat} (h : c < 256) : m_X1_isDigit (nI c) = some (if isD c = true then 1 else 0) := by
  unfold m_X1_isDigit isD
  rw [show (48 : Int32) = nI 48 from rfl, show (57 : Int32) = nI 57 from rfl]
  by_cases h1 : c < 48
  · rw [if_pos (nI_lt h1 (by omega)), if_neg (by simp; omega)]
  · rw [if_neg (nI_nlt (by omega) (by omega))]
    by_cases h2 : 57 < c
    · rw [if_pos (nI_lt h2 (by omega)), if_neg (by simp; omega)]
    · rw [if_neg (nI_nlt (by omega) (by omega)), if_pos (by simp; omega)]
theorem isLetterM {c : Nat} (h : c < 256) : m_X6_isLetter (nI c) = some (if isL c = true then 1 else 0) := by
  unfold m_X6_isLetter
  rw [pw_in, bnd_s, grd_t (bz_bi _), Int32.toInt_toInt64, nI_toInt (by omega), show (97 : Int64).toInt = 97 by decide, show (122 : Int64).toInt = 122 by decide]
  unfold isL
  by_cases h1 : 97 ≤ c ∧ c ≤ 122
  · rw [if_pos (by omega), if_pos (by simp; omega)]
  · rw [if_neg (by omega), if_neg (by simp; omega)]
theorem isFigureM {c : Nat} (h : c < 256) : m_X6_isFigure (nI c) = some (if isD c = true then 1 else 0) := by
  unfold m_X6_isFigure
  rw [pw_in, bnd_s, grd_t (bz_bi _), Int32.toInt_toInt64, nI_toInt (by omega), show (48 : Int64).toInt = 48 by decide, show (57 : Int64).toInt = 57 by decide]
  unfold isD
  by_cases h1 : 48 ≤ c ∧ c ≤ 57
  · rw [if_pos (by omega), if_pos (by simp; omega)]
  · rw [if_neg (by omega), if_neg (by simp; omega)]
theorem isLetterM1 : m_X6_isLetter (-1) = some 0 := by decide
theorem isFigureM1 : m_X6_isFigure (-1) = some 0 := by decide
/-! the class's loops -/
theorem tkC0 {x : Nat → Nat} {n : Nat} {vt : Nat → Int32} (hV : TV n x) (hT : TR n x vt) : ∀ (f i : Nat) (vR : Ob), i ≤ n → n - i < f → vR 0 2 = nI n → vR 0 3 = nI i → m_X1_readToken_L0 vt f vR = some (st vR 0 3 (nI (run isB x n i)))
  | 0, i, vR, hi, hf, h2, h3 => by omega
  | f + 1, i, vR, hi, hf, h2, h3 => by
    have h200 := hV.1
    show m_X1_readToken_L0B vt (m_X1_readToken_L0 vt f) vR = _
    unfold m_X1_readToken_L0B
    rw [h2, h3]
    by_cases hlt : i < n
    · have hx := hV.2 i hlt
      rw [if_neg (nI_ge hlt (by omega)), grd_t (inb_nI (by omega) (by omega)), cl (by omega), hT i hlt, show (32 : Int32) = nI 32 from rfl, if_nI (by omega) (by omega), nI_1]
      by_cases hb : x i = 32
      · rw [if_pos hb, tkC0 hV hT f (i + 1) _ (by omega) (by omega) (by rw [st_get, if_neg (by omega)]; exact h2) (by rw [st_get, if_pos ⟨rfl, rfl⟩]), st_st, run_step hlt (by simp [isB, hb])]
      · rw [if_neg hb, run_stop hlt (by simp [isB, hb]), st_self _ _ _ h3]
    · rw [if_pos (nI_le (by omega) (by omega)), run_end (by omega), st_self _ _ _ h3]
theorem tkC1 {x : Nat → Nat} {n : Nat} {vt : Nat → Int32} (hV : TV n x) (hT : TR n x vt) (c : Int32) : ∀ (f i : Nat) (vR : Ob), i ≤ n → n - i < f → vR 0 2 = nI n → vR 0 3 = nI i → m_X1_readToken_L90 vt f vR c = some (st vR 0 3 (nI (run isL x n i)), c)
  | 0, i, vR, hi, hf, h2, h3 => by omega
  | f + 1, i, vR, hi, hf, h2, h3 => by
    have h200 := hV.1
    show m_X1_readToken_L90B vt (m_X1_readToken_L90 vt f) vR c = _
    unfold m_X1_readToken_L90B
    rw [h2, h3]
    by_cases hlt : i < n
    · have hx := hV.2 i hlt
      rw [if_neg (nI_ge hlt (by omega)), grd_t (inb_nI (by omega) (by omega)), cl (by omega), hT i hlt, isLetterC hx, bnd_s, if_bi, nI_1]
      cases hb : isL (x i) with
      | true => rw [if_pos rfl, tkC1 hV hT c f (i + 1) _ (by omega) (by omega) (by rw [st_get, if_neg (by omega)]; exact h2) (by rw [st_get, if_pos ⟨rfl, rfl⟩]), st_st, run_step hlt hb]
      | false => rw [if_neg (by decide), run_stop hlt hb, st_self _ _ _ h3]
    · rw [if_pos (nI_le (by omega) (by omega)), run_end (by omega), st_self _ _ _ h3]
theorem tkC2 {x : Nat → Nat} {n : Nat} {vt : Nat → Int32} (hV : TV n x) (hT : TR n x vt) (c : Int32) : ∀ (f i : Nat) (vR : Ob), i ≤ n → n - i < f → vR 0 2 = nI n → vR 0 3 = nI i → ∃ u, m_X1_readToken_L174 vt f vR c = some (st (st vR 0 6 u) 0 3 (nI (run isD x n i)), c) ∧ (run isD x n i = i → u = vR 0 6) ∧ (run isD x n i = i + 1 → u = vR 0 6 * 10 + nI (x i) - 48)
  | 0, i, vR, hi, hf, h2, h3 => by omega
  | f + 1, i, vR, hi, hf, h2, h3 => by
    have h200 := hV.1
    show ∃ u, m_X1_readToken_L174B vt (m_X1_readToken_L174 vt f) vR c = _ ∧ _
    unfold m_X1_readToken_L174B
    rw [h2, h3]
    by_cases hlt : i < n
    · have hx := hV.2 i hlt
      rw [if_neg (nI_ge hlt (by omega)), grd_t (inb_nI (by omega) (by omega)), cl (by omega), hT i hlt, isDigitC hx, bnd_s, if_bi, nI_1]
      cases hb : isD (x i) with
      | true =>
        rw [if_pos rfl, grd_t (inb_nI (by omega) (by omega)), run_step hlt hb]
        obtain ⟨u, hu, ha, hc⟩ := tkC2 hV hT c f (i + 1) (st (st vR 0 6 (vR 0 6 * 10 + nI (x i) - 48)) 0 3 (nI (i + 1))) (by omega) (by omega) (by rw [st_get, if_neg (by omega), st_get, if_neg (by omega)]; exact h2) (by rw [st_get, if_pos ⟨rfl, rfl⟩])
        refine ⟨u, ?_, fun q => ?_, fun q => ?_⟩
        · rw [hu, st4 _ _ _ _ _ (by omega)]
        · have := (run_facts (P := isD) (x := x) (n := n) _ (i + 1) (by omega) rfl).1
          omega
        · rw [ha q, st_get, if_neg (by omega), st_get, if_pos ⟨rfl, rfl⟩]
      | false =>
        rw [if_neg (by decide), run_stop hlt hb]
        exact ⟨vR 0 6, by rw [st_self _ _ _ rfl, st_self _ _ _ h3], fun _ => rfl, fun q => by omega⟩
    · rw [if_pos (nI_le (by omega) (by omega)), run_end (by omega)]
      exact ⟨vR 0 6, by rw [st_self _ _ _ rfl, st_self _ _ _ h3], fun _ => rfl, fun q => by omega⟩
/-! the reference's loops -/
theorem hereM {x : Nat → Nat} {n i : Nat} {vM : Ob} (hV : TV n x) (hT : TR n x (vM 6)) (h6 : vM 0 6 = nI n) (h12 : vM 0 12 = nI i) (hi : i ≤ n) : m_X6_here vM = some (if i < n then nI (x i) else -1) := by
  have h200 := hV.1
  unfold m_X6_here
  rw [h6, h12]
  by_cases hlt : i < n
  · rw [if_neg (nI_ge hlt (by omega)), grd_t (inb_nI (by omega) (by omega)), cl (by omega), hT i hlt, if_pos hlt]
  · rw [if_pos (nI_le (by omega) (by omega)), if_neg hlt]
theorem tkM0 {x : Nat → Nat} {n : Nat} (hV : TV n x) : ∀ (f i : Nat) (vM : Ob), TR n x (vM 6) → i ≤ n → n - i < f → vM 0 6 = nI n → vM 0 12 = nI i → m_X6_next_L0 f vM = some (st vM 0 12 (nI (run isB x n i)))
  | 0, i, vM, hT, hi, hf, h2, h3 => by omega
  | f + 1, i, vM, hT, hi, hf, h2, h3 => by
    have h200 := hV.1
    show m_X6_next_L0B (m_X6_next_L0 f) vM = _
    unfold m_X6_next_L0B
    rw [hereM hV hT h2 h3 hi, bnd_s, h3, nI_1]
    by_cases hlt : i < n
    · have hx := hV.2 i hlt
      rw [if_pos hlt, show (32 : Int32) = nI 32 from rfl, if_nI (by omega) (by omega)]
      by_cases hb : x i = 32
      · rw [if_pos hb, tkM0 hV f (i + 1) (st vM 0 12 (nI (i + 1))) (by rw [st_row_ne _ _ _ (by omega)]; exact hT) (by omega) (by omega) (by rw [st_get, if_neg (by omega)]; exact h2) (by rw [st_get, if_pos ⟨rfl, rfl⟩]), st_st, run_step hlt (by simp [isB, hb])]
      · rw [if_neg hb, run_stop hlt (by simp [isB, hb]), st_self _ _ _ h3]
    · rw [if_neg hlt, if_neg (by decide), run_end (by omega), st_self _ _ _ h3]
theorem tkM1 {x : Nat → Nat} {n b : Nat} (c : Int32) (hV : TV n x) : ∀ (f i : Nat) (vM : Ob), TR n x (vM 6) → b < i → i ≤ n → n - i < f → vM 0 6 = nI n → vM 0 12 = nI i → vM 0 13 = nI b → vM 0 14 = 1 → m_X6_next_L107 f vM c = some (st (st vM 0 15 (if run isL x n i = i then vM 0 15 else 0)) 0 12 (nI (run isL x n i)), c)
  | 0, i, vM, hT, hb, hi, hf, h2, h3, h4, h5 => by omega
  | f + 1, i, vM, hT, hb, hi, hf, h2, h3, h4, h5 => by
    have h200 := hV.1
    show m_X6_next_L107B (m_X6_next_L107 f) vM c = _
    unfold m_X6_next_L107B m_X6_next_j142
    rw [hereM hV hT h2 h3 hi, bnd_s, h3, h4, h5, nI_1, if_pos rfl, if_nI (by omega) (by omega), if_neg (show ¬ i = b by omega)]
    by_cases hlt : i < n
    · have hx := hV.2 i hlt
      rw [if_pos hlt, isLetterM hx, bnd_s, if_bi]
      cases hl : isL (x i) with
      | true =>
        have hr := (run_facts (P := isL) (x := x) (n := n) _ (i + 1) (by omega) rfl).1
        have ih := tkM1 (b := b) c hV f (i + 1) (st (st vM 0 15 0) 0 12 (nI (i + 1))) (by rw [st_row_ne _ _ _ (by omega), st_row_ne _ _ _ (by omega)]; exact hT) (by omega) (by omega) (by omega) (by rw [st_get, if_neg (by omega), st_get, if_neg (by omega)]; exact h2) (by rw [st_get, if_pos ⟨rfl, rfl⟩]) (by rw [st_get, if_neg (by omega), st_get, if_neg (by omega)]; exact h4) (by rw [st_get, if_neg (by omega), st_get, if_neg (by omega)]; exact h5)
        have e0 : st (st vM 0 15 0) 0 12 (nI (i + 1)) 0 15 = 0 := by rw [st_get, if_neg (by omega), st_get, if_pos ⟨rfl, rfl⟩]
        rw [if_pos rfl, ih, e0, ite_self, run_step hlt hl, if_neg (show ¬ run isL x n (i + 1) = i by omega), st4 _ _ _ _ _ (by omega)]
      | false => rw [if_neg (by decide), run_stop hlt hl, if_pos rfl, st_self _ _ _ rfl, st_self _ _ _ h3]
    · rw [if_neg hlt, isLetterM1, bnd_s, if_pos rfl, run_end (by omega), if_pos rfl, st_self _ _ _ rfl, st_self _ _ _ h3]
theorem isD_b {c : Nat} (h : isD c = true) : 48 ≤ c ∧ c ≤ 57 := by simpa [isD] using h
theorem isL_b {c : Nat} (h : isL c = true) : 97 ≤ c ∧ c ≤ 122 := by simpa [isL] using h
theorem tkM2 {x : Nat → Nat} {n : Nat} (c : Int32) (hV : TV n x) : ∀ (f i v : Nat) (vM : Ob), TR n x (vM 6) → i ≤ n → n - i < f → vM 0 6 = nI n → vM 0 12 = nI i → vM 0 14 = 2 → vM 0 15 = nI v → v ≤ 999 → ∃ u, m_X6_next_L158 f vM c = some (st (st vM 0 15 (nI u)) 0 12 (nI (run isD x n i)), c) ∧ v ≤ u ∧ u ≤ 999 ∧ (run isD x n i = i → u = v) ∧ (run isD x n i = i + 1 → v ≤ 99 → u = 10 * v + (x i - 48)) ∧ (i + 1 ≤ run isD x n i → v ≤ 99 → 10 * v ≤ u) ∧ (i + 2 ≤ run isD x n i → v ≤ 9 → 100 * v ≤ u)
  | 0, i, v, vM, hT, hi, hf, h2, h3, h4, h5, hv => by omega
  | f + 1, i, v, vM, hT, hi, hf, h2, h3, h4, h5, hv => by
    have h200 := hV.1
    show ∃ u, m_X6_next_L158B (m_X6_next_L158 f) vM c = _ ∧ _
    unfold m_X6_next_L158B m_X6_next_j208
    rw [hereM hV hT h2 h3 hi, bnd_s, bnd_s, h3, h4, h5, nI_1, if_pos rfl]
    by_cases hlt : i < n
    · have hx := hV.2 i hlt
      rw [if_pos hlt, isFigureM hx, bnd_s, if_bi]
      cases hd : isD (x i) with
      | true =>
        have hd' := isD_b hd
        have hr := (run_facts (P := isD) (x := x) (n := n) _ (i + 1) (by omega) rfl).1
        have e : (10 : Int32) * nI v + nI (x i) - 48 = nI (10 * v + (x i - 48)) := by
          rw [show (10 : Int32) = nI 10 from rfl, pk_mul, nI_add, show (48 : Int32) = nI 48 from rfl, pk_sub (by omega)]
          congr 1; omega
        rw [if_pos rfl, run_step hlt hd, e, show (99 : Int32) = nI 99 from rfl]
        by_cases h99 : v ≤ 99
        · rw [if_pos (nI_le h99 (by omega))]
          obtain ⟨u, hu, a1, a2, a3, a4, a5, a6⟩ := tkM2 c hV f (i + 1) (10 * v + (x i - 48)) (st (st vM 0 15 (nI (10 * v + (x i - 48)))) 0 12 (nI (i + 1))) (by rw [st_row_ne _ _ _ (by omega), st_row_ne _ _ _ (by omega)]; exact hT) (by omega) (by omega) (by rw [st_get, if_neg (by omega), st_get, if_neg (by omega)]; exact h2) (by rw [st_get, if_pos ⟨rfl, rfl⟩]) (by rw [st_get, if_neg (by omega), st_get, if_neg (by omega)]; exact h4) (by rw [st_get, if_neg (by omega), st_get, if_pos ⟨rfl, rfl⟩]) (by omega)
          refine ⟨u, ?_, by omega, a2, fun q => by omega, fun q _ => a3 q, fun q _ => by omega, fun q h9 => ?_⟩
          · rw [hu, st4 _ _ _ _ _ (by omega)]
          · have := a5 (by omega) (by omega)
            omega
        · rw [if_neg (nI_ge (by omega) (by omega))]
          obtain ⟨u, hu, a1, a2, a3, a4, a5, a6⟩ := tkM2 c hV f (i + 1) v (st (st vM 0 15 (nI v)) 0 12 (nI (i + 1))) (by rw [st_row_ne _ _ _ (by omega), st_row_ne _ _ _ (by omega)]; exact hT) (by omega) (by omega) (by rw [st_get, if_neg (by omega), st_get, if_neg (by omega)]; exact h2) (by rw [st_get, if_pos ⟨rfl, rfl⟩]) (by rw [st_get, if_neg (by omega), st_get, if_neg (by omega)]; exact h4) (by rw [st_get, if_neg (by omega), st_get, if_pos ⟨rfl, rfl⟩]) (by omega)
          refine ⟨u, ?_, by omega, a2, fun q => by omega, fun q _ => by omega, fun q _ => by omega, fun q h9 => by omega⟩
          rw [hu, st4 _ _ _ _ _ (by omega)]
      | false =>
        rw [if_neg (by decide), run_stop hlt hd]
        exact ⟨v, by rw [st_self _ _ _ h5, st_self _ _ _ h3], Nat.le_refl _, hv, fun _ => rfl, fun q => by omega, fun q => by omega, fun q => by omega⟩
    · rw [if_neg hlt, isFigureM1, bnd_s, if_pos rfl, run_end (by omega)]
      exact ⟨v, by rw [st_self _ _ _ h5, st_self _ _ _ h3], Nat.le_refl _, hv, fun _ => rfl, fun q => by omega, fun q => by omega, fun q => by omega⟩
