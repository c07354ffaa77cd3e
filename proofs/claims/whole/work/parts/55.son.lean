/-! PURE: what may be undone -/
theorem st_upR (E : Ob) (r : Nat) (f : Nat → Int32) (i : Nat) (v : Int32) : st (upR E r f) r i v = upR E r (upd f i v) := by
  funext r'
  by_cases h : r' = r
  · subst h; rw [st_row_eq, upR_eq, upR_eq]
  · rw [st_row_ne _ _ _ h, upR_ne _ _ h, upR_ne _ _ h]
theorem upR_self (E : Ob) (r : Nat) : upR E r (E r) = E := by
  funext r'
  by_cases h : r' = r
  · subst h; rw [upR_eq]
  · rw [upR_ne _ _ h]
theorem st_as (E : Ob) (r i : Nat) (v : Int32) : st E r i v = upR E r (upd (E r) i v) := by
  rw [← st_upR, upR_self]
def sAdd (z : Nat → Nat) : Nat → Nat := fun i => if i = 3 then z 3 + 1 else if i = 4 + 3 * z 3 then z 0 else if i = 5 + 3 * z 3 then z 1 else if i = 6 + 3 * z 3 then z 2 else z i
def sLose (z : Nat → Nat) : Nat → Nat := fun i => if i = 3 then 11 else if 4 ≤ i then z (i + 3) else z i
def sRem (z : Nat → Nat) : Nat → Nat := sAdd (if z 3 = 12 then sLose z else z)
theorem sAdd_0 (z : Nat → Nat) : sAdd z 0 = z 0 ∧ sAdd z 1 = z 1 ∧ sAdd z 2 = z 2 := by
  unfold sAdd
  refine ⟨?_, ?_, ?_⟩
  · rw [if_neg (by omega), if_neg (by omega), if_neg (by omega), if_neg (by omega)]
  · rw [if_neg (by omega), if_neg (by omega), if_neg (by omega), if_neg (by omega)]
  · rw [if_neg (by omega), if_neg (by omega), if_neg (by omega), if_neg (by omega)]
theorem sRem_0 (z : Nat → Nat) : sRem z 0 = z 0 ∧ sRem z 1 = z 1 ∧ sRem z 2 = z 2 := by
  unfold sRem
  by_cases h : z 3 = 12
  · rw [if_pos h]; exact sAdd_0 (sLose z)
  · rw [if_neg h]; exact sAdd_0 z
theorem sRem_3 {z : Nat → Nat} (h : z 3 ≤ 12) : 1 ≤ sRem z 3 ∧ sRem z 3 ≤ 12 := by
  unfold sRem sAdd sLose
  by_cases h : z 3 = 12
  · simp [h]
  · simp [h]; omega
theorem sAdd_V {w z : Nat → Nat} (h : SV w z) (h3 : z 3 < 12) : SV w (sAdd z) := by
  obtain ⟨h1, h2, h4⟩ := h
  refine ⟨by simp only [sAdd]; simpa [show ¬ (0 : Nat) = 4 + 3 * z 3 by omega, show ¬ (0 : Nat) = 5 + 3 * z 3 by omega, show ¬ (0 : Nat) = 6 + 3 * z 3 by omega, show ¬ (1 : Nat) = 4 + 3 * z 3 by omega, show ¬ (1 : Nat) = 5 + 3 * z 3 by omega, show ¬ (1 : Nat) = 6 + 3 * z 3 by omega, show ¬ (2 : Nat) = 4 + 3 * z 3 by omega, show ¬ (2 : Nat) = 5 + 3 * z 3 by omega, show ¬ (2 : Nat) = 6 + 3 * z 3 by omega] using h1, by simp [sAdd]; omega, fun k hk => ?_⟩
  have hk : k < z 3 + 1 := by simpa [sAdd] using hk
  by_cases hkz : k = z 3
  · subst hkz
    have e1 : sAdd z (4 + 3 * z 3) = z 0 := by unfold sAdd; rw [if_neg (by omega), if_pos rfl]
    have e2 : sAdd z (5 + 3 * z 3) = z 1 := by unfold sAdd; rw [if_neg (by omega), if_neg (by omega), if_pos rfl]
    have e3 : sAdd z (6 + 3 * z 3) = z 2 := by unfold sAdd; rw [if_neg (by omega), if_neg (by omega), if_neg (by omega), if_pos rfl]
    rw [e1, e2, e3]; exact h1
  · have e1 : sAdd z (4 + 3 * k) = z (4 + 3 * k) := by unfold sAdd; rw [if_neg (by omega), if_neg (by omega), if_neg (by omega), if_neg (by omega)]
    have e2 : sAdd z (5 + 3 * k) = z (5 + 3 * k) := by unfold sAdd; rw [if_neg (by omega), if_neg (by omega), if_neg (by omega), if_neg (by omega)]
    have e3 : sAdd z (6 + 3 * k) = z (6 + 3 * k) := by unfold sAdd; rw [if_neg (by omega), if_neg (by omega), if_neg (by omega), if_neg (by omega)]
    rw [e1, e2, e3]; exact h4 k (by omega)
theorem sLose_V {w z : Nat → Nat} (h : SV w z) (h3 : z 3 = 12) : SV w (sLose z) := by
  obtain ⟨h1, h2, h4⟩ := h
  refine ⟨by simpa [sLose] using h1, by simp [sLose], fun k hk => ?_⟩
  have hk : k < 11 := by simpa [sLose] using hk
  have e1 : sLose z (4 + 3 * k) = z (4 + 3 * (k + 1)) := by unfold sLose; rw [if_neg (by omega), if_pos (by omega)]; congr 1
  have e2 : sLose z (5 + 3 * k) = z (5 + 3 * (k + 1)) := by unfold sLose; rw [if_neg (by omega), if_pos (by omega)]; congr 1
  have e3 : sLose z (6 + 3 * k) = z (6 + 3 * (k + 1)) := by unfold sLose; rw [if_neg (by omega), if_pos (by omega)]; congr 1
  rw [e1, e2, e3]; exact h4 (k + 1) (by omega)
theorem sRem_V {w z : Nat → Nat} (h : SV w z) : SV w (sRem z) := by
  unfold sRem
  by_cases h3 : z 3 = 12
  · rw [if_pos h3]; exact sAdd_V (sLose_V h h3) (by simp [sLose])
  · rw [if_neg h3]; exact sAdd_V h (by have := h.2.1; omega)
theorem addC {z : Nat → Nat} {v : Ob} (h : SC z v) (h3 : z 3 < 12) : ∃ v', m_X2_remember_j13 v = some v' ∧ SC (sAdd z) v' ∧ v' 0 4 = v 0 4 := by
  obtain ⟨a0, a1, a2, a3, a4⟩ := h
  unfold m_X2_remember_j13
  rw [a3, pw_isWithin, bnd_s, if_bi, nI_toInt (by omega), show (0 : Int32).toInt = 0 by decide, show (11 : Int32).toInt = 11 by decide, if_pos (by omega), grd_t (inb_nI h3 (by omega)), grd_t (inb_nI h3 (by omega)), grd_t (inb_nI h3 (by omega)), cl (by omega), a0, a1, a2]
  have s0 : sAdd z 0 = z 0 := by unfold sAdd; rw [if_neg (by omega), if_neg (by omega), if_neg (by omega), if_neg (by omega)]
  have s1 : sAdd z 1 = z 1 := by unfold sAdd; rw [if_neg (by omega), if_neg (by omega), if_neg (by omega), if_neg (by omega)]
  have s2 : sAdd z 2 = z 2 := by unfold sAdd; rw [if_neg (by omega), if_neg (by omega), if_neg (by omega), if_neg (by omega)]
  have s3 : sAdd z 3 = z 3 + 1 := by unfold sAdd; rw [if_pos rfl]
  refine ⟨_, rfl, ⟨by rw [s0]; exact a0, by rw [s1]; exact a1, by rw [s2]; exact a2, by rw [s3]; exact nI_1 _, fun k hk => ?_⟩, rfl⟩
  rw [s3] at hk
  show upd (v 6) (z 3) (nI (z 0)) k = nI (sAdd z (4 + 3 * k)) ∧ upd (v 7) (z 3) (nI (z 1)) k = nI (sAdd z (5 + 3 * k)) ∧ upd (v 8) (z 3) (nI (z 2)) k = nI (sAdd z (6 + 3 * k))
  by_cases hkz : k = z 3
  · subst hkz
    have e1 : sAdd z (4 + 3 * z 3) = z 0 := by unfold sAdd; rw [if_neg (by omega), if_pos rfl]
    have e2 : sAdd z (5 + 3 * z 3) = z 1 := by unfold sAdd; rw [if_neg (by omega), if_neg (by omega), if_pos rfl]
    have e3 : sAdd z (6 + 3 * z 3) = z 2 := by unfold sAdd; rw [if_neg (by omega), if_neg (by omega), if_neg (by omega), if_pos rfl]
    rw [upd_eq, upd_eq, upd_eq, e1, e2, e3]; exact ⟨rfl, rfl, rfl⟩
  · have e1 : sAdd z (4 + 3 * k) = z (4 + 3 * k) := by unfold sAdd; rw [if_neg (by omega), if_neg (by omega), if_neg (by omega), if_neg (by omega)]
    have e2 : sAdd z (5 + 3 * k) = z (5 + 3 * k) := by unfold sAdd; rw [if_neg (by omega), if_neg (by omega), if_neg (by omega), if_neg (by omega)]
    have e3 : sAdd z (6 + 3 * k) = z (6 + 3 * k) := by unfold sAdd; rw [if_neg (by omega), if_neg (by omega), if_neg (by omega), if_neg (by omega)]
    rw [upd_ne _ _ hkz, upd_ne _ _ hkz, upd_ne _ _ hkz, e1, e2, e3]; exact a4 k (by omega)
theorem c11 : Int32.toNatClampNeg 11 = 11 := by decide
theorem c12 : Int32.toNatClampNeg 12 = 12 := by decide
theorem loseC {z : Nat → Nat} {v : Ob} (h : SC z v) (h3 : z 3 = 12) : ∃ v', m_X2_loseOldest v = some v' ∧ SC (sLose z) v' ∧ v' 0 4 = v 0 4 := by
  obtain ⟨a0, a1, a2, a3, a4⟩ := h
  refine ⟨_, rfl, ⟨a0, a1, a2, rfl, fun k hk => ?_⟩, rfl⟩
  have hk : k < 11 := by simpa [sLose] using hk
  have e1 : sLose z (4 + 3 * k) = z (4 + 3 * (k + 1)) := by unfold sLose; rw [if_neg (by omega), if_pos (by omega)]; congr 1
  have e2 : sLose z (5 + 3 * k) = z (5 + 3 * (k + 1)) := by unfold sLose; rw [if_neg (by omega), if_pos (by omega)]; congr 1
  have e3 : sLose z (6 + 3 * k) = z (6 + 3 * (k + 1)) := by unfold sLose; rw [if_neg (by omega), if_pos (by omega)]; congr 1
  show va_cpy (v 6) (v 6) (Int32.toNatClampNeg 1) (Int32.toNatClampNeg 0) (Int32.toNatClampNeg 11) k = _ ∧ va_cpy (v 7) (v 7) (Int32.toNatClampNeg 1) (Int32.toNatClampNeg 0) (Int32.toNatClampNeg 11) k = _ ∧ va_cpy (v 8) (v 8) (Int32.toNatClampNeg 1) (Int32.toNatClampNeg 0) (Int32.toNatClampNeg 11) k = _
  rw [c0, c1, c11, pk_cpy_in (by omega) (by omega), pk_cpy_in (by omega) (by omega), pk_cpy_in (by omega) (by omega), e1, e2, e3, show 1 + (k - 0) = k + 1 by omega]
  exact a4 (k + 1) (by omega)
theorem remC {z : Nat → Nat} {v : Ob} (h : SC z v) (h3 : z 3 ≤ 12) : ∃ v', m_X2_remember v = some v' ∧ SC (sRem z) v' ∧ v' 0 4 = v 0 4 := by
  unfold m_X2_remember sRem
  rw [h.2.2.2.1]
  by_cases h12 : z 3 = 12
  · obtain ⟨v1, e1, k1, f1⟩ := loseC h h12
    obtain ⟨v2, e2, k2, f2⟩ := addC k1 (show sLose z 3 < 12 by simp [sLose])
    rw [h12, if_neg (by decide), if_pos rfl, e1, bnd_s]
    exact ⟨v2, e2, k2, f2.trans f1⟩
  · rw [if_pos (by rw [show (12 : Int32) = nI 12 from rfl]; exact nI_lt (by omega) (by omega)), if_neg h12]
    exact addC h (by omega)
/-- the reference: a row of 40 -/
def shF (f : Nat → Int32) (i : Nat) : Nat → Int32 := fun k => if 4 ≤ k ∧ k < 4 + i then f (k + 3) else f k
theorem shF_s (f : Nat → Int32) (i : Nat) : upd (shF f i) (4 + i) (f (4 + i + 3)) = shF f (i + 1) := by
  funext k
  by_cases h : k = 4 + i
  · subst h; rw [upd_eq]; unfold shF; rw [if_pos (by omega)]
  · rw [upd_ne _ _ h]; unfold shF
    by_cases h2 : 4 ≤ k ∧ k < 4 + i
    · rw [if_pos h2, if_pos (by omega)]
    · rw [if_neg h2, if_neg (by omega)]
theorem shM (vM : Ob) (f : Nat → Int32) : ∀ (n i : Nat), 33 < i + n → i ≤ 33 → m_X6_remember_L13 n (upR vM 3 (shF f i)) (nI i) = some (upR vM 3 (shF f 33))
  | 0, i, h, h2 => by omega
  | n + 1, i, h, h2 => by
    show m_X6_remember_L13B (m_X6_remember_L13 n) (upR vM 3 (shF f i)) (nI i) = _
    unfold m_X6_remember_L13B
    have e4 : (4 : Int32) + nI i = nI (4 + i) := nI_add 4 i
    have e7 : (4 : Int32) + nI i + 3 = nI (4 + i + 3) := by rw [e4]; exact nI_add (4 + i) 3
    by_cases h33 : i = 33
    · subst h33; rw [if_pos (by decide)]
    · rw [if_neg (by rw [show (33 : Int32) = nI 33 from rfl]; exact nI_ge (by omega) (by omega)), e7, e4, grd_t (inb_nI (by omega) (by omega)), grd_t (inb_nI (by omega) (by omega)), cl (by omega), cl (by omega), st_upR, upR_eq, nI_1]
      have e : shF f i (4 + i + 3) = f (4 + i + 3) := by unfold shF; rw [if_neg (by omega)]
      rw [e, shF_s]
      exact shM vM f n (i + 1) (by omega) (by omega)
theorem addM {z : Nat → Nat} {vM : Ob} (h : SM z (vM 3) 0) (h3 : z 3 < 12) : ∃ f, m_X6_remember_j53 vM = some (upR vM 3 f) ∧ SM (sAdd z) f 0 := by
  obtain ⟨a0, a1, a2, a3, a4⟩ := h
  simp only [Nat.zero_add] at a0 a1 a2 a3 a4
  unfold m_X6_remember_j53
  have e4 : (4 : Int32) + (3 : Int32) * nI (z 3) = nI (4 + 3 * z 3) := by rw [show (3 : Int32) = nI 3 from rfl, pk_mul]; exact nI_add 4 _
  have hL : m_X6_remember_L66 FU vM (nI (4 + 3 * z 3)) 0 = some (upR vM 3 (upd (upd (upd (vM 3) (4 + 3 * z 3) (nI (z 0))) (5 + 3 * z 3) (nI (z 1))) (6 + 3 * z 3) (nI (z 2)))) := by
    rw [show FU = 996 + 1 + 1 + 1 + 1 from rfl]
    show m_X6_remember_L66B (m_X6_remember_L66 (996 + 1 + 1 + 1)) vM (nI (4 + 3 * z 3)) (nI 0) = _
    unfold m_X6_remember_L66B
    rw [if_neg (by decide), nI_add, grd_t (inb_nI (by omega) (by omega)), grd_t (inb_nI (by omega) (by omega)), cl (by omega), cl (by omega), a0, nI_1, Nat.add_zero, st_as]
    show m_X6_remember_L66B (m_X6_remember_L66 (996 + 1 + 1)) _ (nI (4 + 3 * z 3)) (nI 1) = _
    unfold m_X6_remember_L66B
    rw [if_neg (by decide), nI_add, grd_t (inb_nI (by omega) (by omega)), grd_t (inb_nI (by omega) (by omega)), cl (by omega), cl (by omega), upR_eq, upd_ne _ _ (by omega), a1, nI_1, st_upR]
    show m_X6_remember_L66B (m_X6_remember_L66 (996 + 1)) _ (nI (4 + 3 * z 3)) (nI 2) = _
    unfold m_X6_remember_L66B
    rw [if_neg (by decide), nI_add, grd_t (inb_nI (by omega) (by omega)), grd_t (inb_nI (by omega) (by omega)), cl (by omega), cl (by omega), upR_eq, upd_ne _ _ (by omega), upd_ne _ _ (by omega), a2, nI_1, st_upR]
    show m_X6_remember_L66B (m_X6_remember_L66 996) _ (nI (4 + 3 * z 3)) (nI 3) = _
    unfold m_X6_remember_L66B
    rw [if_pos (by decide)]
    rw [show 4 + 3 * z 3 + 1 = 5 + 3 * z 3 by omega, show 4 + 3 * z 3 + 2 = 6 + 3 * z 3 by omega, Nat.add_zero]
  rw [c3, a3, e4, hL, bnd_s, st_upR, upR_eq]
  have s0 : sAdd z 0 = z 0 := by unfold sAdd; rw [if_neg (by omega), if_neg (by omega), if_neg (by omega), if_neg (by omega)]
  have s1 : sAdd z 1 = z 1 := by unfold sAdd; rw [if_neg (by omega), if_neg (by omega), if_neg (by omega), if_neg (by omega)]
  have s2 : sAdd z 2 = z 2 := by unfold sAdd; rw [if_neg (by omega), if_neg (by omega), if_neg (by omega), if_neg (by omega)]
  have s3 : sAdd z 3 = z 3 + 1 := by unfold sAdd; rw [if_pos rfl]
  have n3 : upd (upd (upd (vM 3) (4 + 3 * z 3) (nI (z 0))) (5 + 3 * z 3) (nI (z 1))) (6 + 3 * z 3) (nI (z 2)) 3 = nI (z 3) := by rw [upd_ne _ _ (by omega), upd_ne _ _ (by omega), upd_ne _ _ (by omega), a3]
  refine ⟨_, rfl, ?_⟩
  rw [n3, nI_1]
  refine ⟨?_, ?_, ?_, ?_, fun k hk => ?_⟩
  · rw [upd_ne _ _ (by omega), upd_ne _ _ (by omega), upd_ne _ _ (by omega), upd_ne _ _ (by omega), s0]; exact a0
  · rw [upd_ne _ _ (by omega), upd_ne _ _ (by omega), upd_ne _ _ (by omega), upd_ne _ _ (by omega), s1]; exact a1
  · rw [upd_ne _ _ (by omega), upd_ne _ _ (by omega), upd_ne _ _ (by omega), upd_ne _ _ (by omega), s2]; exact a2
  · rw [Nat.zero_add, upd_eq, s3]
  · rw [s3] at hk
    simp only [Nat.zero_add]
    by_cases hkz : k = z 3
    · subst hkz
      have e1 : sAdd z (4 + 3 * z 3) = z 0 := by unfold sAdd; rw [if_neg (by omega), if_pos rfl]
      have e2 : sAdd z (5 + 3 * z 3) = z 1 := by unfold sAdd; rw [if_neg (by omega), if_neg (by omega), if_pos rfl]
      have e3 : sAdd z (6 + 3 * z 3) = z 2 := by unfold sAdd; rw [if_neg (by omega), if_neg (by omega), if_neg (by omega), if_pos rfl]
      rw [e1, e2, e3]
      refine ⟨?_, ?_, ?_⟩
      · rw [upd_ne _ _ (by omega), upd_ne _ _ (by omega), upd_ne _ _ (by omega), upd_eq]
      · rw [upd_ne _ _ (by omega), upd_ne _ _ (by omega), upd_eq]
      · rw [upd_ne _ _ (by omega), upd_eq]
    · have e1 : sAdd z (4 + 3 * k) = z (4 + 3 * k) := by unfold sAdd; rw [if_neg (by omega), if_neg (by omega), if_neg (by omega), if_neg (by omega)]
      have e2 : sAdd z (5 + 3 * k) = z (5 + 3 * k) := by unfold sAdd; rw [if_neg (by omega), if_neg (by omega), if_neg (by omega), if_neg (by omega)]
      have e3 : sAdd z (6 + 3 * k) = z (6 + 3 * k) := by unfold sAdd; rw [if_neg (by omega), if_neg (by omega), if_neg (by omega), if_neg (by omega)]
      rw [e1, e2, e3]
      refine ⟨?_, ?_, ?_⟩
      · rw [upd_ne _ _ (by omega), upd_ne _ _ (by omega), upd_ne _ _ (by omega), upd_ne _ _ (by omega)]; exact (a4 k (by omega)).1
      · rw [upd_ne _ _ (by omega), upd_ne _ _ (by omega), upd_ne _ _ (by omega), upd_ne _ _ (by omega)]; exact (a4 k (by omega)).2.1
      · rw [upd_ne _ _ (by omega), upd_ne _ _ (by omega), upd_ne _ _ (by omega), upd_ne _ _ (by omega)]; exact (a4 k (by omega)).2.2
theorem upR_upR (E : Ob) (r : Nat) (f g : Nat → Int32) : upR (upR E r f) r g = upR E r g := by
  funext r'
  by_cases h : r' = r
  · subst h; rw [upR_eq, upR_eq]
  · rw [upR_ne _ _ h, upR_ne _ _ h, upR_ne _ _ h]
theorem remM {z : Nat → Nat} {vM : Ob} (h : SM z (vM 3) 0) (h3 : z 3 ≤ 12) : ∃ f, m_X6_remember vM = some (upR vM 3 f) ∧ SM (sRem z) f 0 := by
  unfold m_X6_remember sRem
  have a3 := h.2.2.2.1
  rw [Nat.zero_add] at a3
  rw [c3, a3]
  by_cases h12 : z 3 = 12
  · have hs := shM vM (vM 3) FU 0 (by decide) (by omega)
    rw [show shF (vM 3) 0 = vM 3 by funext k; unfold shF; rw [if_neg (by omega)], upR_self] at hs
    rw [h12, if_pos (show nI 12 = 12 from rfl), if_pos rfl, show (0 : Int32) = nI 0 from rfl, hs, bnd_s, st_upR, upR_eq]
    have hz : SM (sLose z) (upd (shF (vM 3) 33) 3 (shF (vM 3) 33 3 - 1)) 0 := by
      obtain ⟨b0, b1, b2, b3, b4⟩ := h
      simp only [Nat.zero_add] at b0 b1 b2 b3 b4
      have q3 : shF (vM 3) 33 3 = nI 12 := by unfold shF; rw [if_neg (by omega), b3, h12]
      refine ⟨?_, ?_, ?_, ?_, fun k hk => ?_⟩
      · rw [upd_ne _ _ (by omega)]; unfold shF; rw [if_neg (by omega)]; exact b0
      · rw [upd_ne _ _ (by omega)]; unfold shF; rw [if_neg (by omega)]; exact b1
      · rw [upd_ne _ _ (by omega)]; unfold shF; rw [if_neg (by omega)]; exact b2
      · rw [Nat.zero_add, upd_eq, q3, show sLose z 3 = 11 from rfl]; decide
      · have hk : k < 11 := by simpa [sLose] using hk
        have e1 : sLose z (4 + 3 * k) = z (4 + 3 * (k + 1)) := by unfold sLose; rw [if_neg (by omega), if_pos (by omega)]; congr 1
        have e2 : sLose z (5 + 3 * k) = z (5 + 3 * (k + 1)) := by unfold sLose; rw [if_neg (by omega), if_pos (by omega)]; congr 1
        have e3 : sLose z (6 + 3 * k) = z (6 + 3 * (k + 1)) := by unfold sLose; rw [if_neg (by omega), if_pos (by omega)]; congr 1
        simp only [Nat.zero_add]
        rw [upd_ne _ _ (by omega), upd_ne _ _ (by omega), upd_ne _ _ (by omega), e1, e2, e3]
        unfold shF
        rw [if_pos (by omega), if_pos (by omega), if_pos (by omega), show 4 + 3 * k + 3 = 4 + 3 * (k + 1) by omega, show 5 + 3 * k + 3 = 5 + 3 * (k + 1) by omega, show 6 + 3 * k + 3 = 6 + 3 * (k + 1) by omega]
        exact b4 (k + 1) (by omega)
    have hz' : SM (sLose z) ((upR vM 3 (upd (shF (vM 3) 33) 3 (shF (vM 3) 33 3 - 1))) 3) 0 := by rw [upR_eq]; exact hz
    obtain ⟨f, e1, e2⟩ := addM hz' (show sLose z 3 < 12 by simp [sLose])
    exact ⟨f, by rw [e1, upR_upR], e2⟩
  · rw [if_neg (by rw [show (12 : Int32) = nI 12 from rfl, nI_eq (by omega) (by omega)]; exact h12), if_neg h12]
    exact addM h (by omega)
