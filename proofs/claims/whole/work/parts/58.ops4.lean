/-! PURE: undo, keep, back, now, clocks -/
def sUndo (z : Nat → Nat) : Nat → Nat := up (up (up (up z 3 (z 3 - 1)) 0 (z (4 + 3 * (z 3 - 1)))) 1 (z (5 + 3 * (z 3 - 1)))) 2 (z (6 + 3 * (z 3 - 1)))
theorem sUndo_k (z : Nat → Nat) {k : Nat} (h : 4 ≤ k) : sUndo z k = z k := by
  unfold sUndo; rw [up_ne _ _ (by omega), up_ne _ _ (by omega), up_ne _ _ (by omega), up_ne _ _ (by omega)]
theorem sUndo_3 (z : Nat → Nat) : sUndo z 3 = z 3 - 1 := by
  unfold sUndo; rw [up_ne _ _ (by omega), up_ne _ _ (by omega), up_ne _ _ (by omega), up_eq]
theorem sUndo_0 (z : Nat → Nat) : sUndo z 0 = z (4 + 3 * (z 3 - 1)) ∧ sUndo z 1 = z (5 + 3 * (z 3 - 1)) ∧ sUndo z 2 = z (6 + 3 * (z 3 - 1)) := by
  unfold sUndo
  exact ⟨by rw [up_ne _ _ (by omega), up_ne _ _ (by omega), up_eq], by rw [up_ne _ _ (by omega), up_eq], by rw [up_eq]⟩
theorem sUndo_V {w z : Nat → Nat} (h : SV w z) (h0 : 0 < z 3) : SV w (sUndo z) := by
  obtain ⟨h1, h2, h4⟩ := h
  obtain ⟨e0, e1, e2⟩ := sUndo_0 z
  refine ⟨by rw [e0, e1, e2]; exact h4 _ (by omega), by rw [sUndo_3]; omega, fun k hk => ?_⟩
  rw [sUndo_3] at hk
  rw [sUndo_k _ (by omega), sUndo_k _ (by omega), sUndo_k _ (by omega)]
  exact h4 k (by omega)
theorem recC {z : Nat → Nat} {v : Ob} (h : SC z v) (h0 : 0 < z 3) (h12 : z 3 ≤ 12) : ∃ v', m_X2_recall v = some v' ∧ SC (sUndo z) v' := by
  obtain ⟨a0, a1, a2, a3, a4⟩ := h
  unfold m_X2_recall
  rw [a3, pw_isWithin, bnd_s, if_bi, nI_toInt (by omega), show (1 : Int32).toInt = 1 by decide, show (12 : Int32).toInt = 12 by decide, if_pos (by omega), show (1 : Int32) = nI 1 from rfl, pk_sub (by omega), grd_t (inb_nI (by omega) (by omega)), grd_t (inb_nI (by omega) (by omega)), grd_t (inb_nI (by omega) (by omega)), cl (by omega)]
  obtain ⟨b1, b2, b3⟩ := a4 (z 3 - 1) (by omega)
  rw [b1, b2, b3]
  obtain ⟨e0, e1, e2⟩ := sUndo_0 z
  refine ⟨_, rfl, by rw [e0]; rfl, by rw [e1]; rfl, by rw [e2]; rfl, by rw [sUndo_3]; rfl, fun k hk => ?_⟩
  rw [sUndo_3] at hk
  rw [sUndo_k _ (by omega), sUndo_k _ (by omega), sUndo_k _ (by omega)]
  exact a4 k (by omega)
theorem undoM {z : Nat → Nat} {vM : Ob} (h : SM z (vM 3) 0) (h0 : 0 < z 3) (h12 : z 3 ≤ 12) : ∃ f, m_X6_undo vM = some (nI (z 3 - 1), upR vM 3 f) ∧ SM (sUndo z) f 0 := by
  obtain ⟨a0, a1, a2, a3, a4⟩ := h
  simp only [Nat.zero_add] at a0 a1 a2 a3 a4
  obtain ⟨b1, b2, b3⟩ := a4 (z 3 - 1) (by omega)
  unfold m_X6_undo
  have e4 : (4 : Int32) + (3 : Int32) * nI (z 3 - 1) = nI (4 + 3 * (z 3 - 1)) := by rw [show (3 : Int32) = nI 3 from rfl, pk_mul]; exact nI_add 4 _
  have es : nI (z 3) - (1 : Int32) = nI (z 3 - 1) := pk_sub (b := 1) (by omega)
  rw [c3, a3, if_neg (nI_ne0 h0 (by omega)), es, upd_eq, e4, st_as]
  have hL : m_X6_undo_L35 FU (upR vM 3 (upd (vM 3) 3 (nI (z 3 - 1)))) (nI (4 + 3 * (z 3 - 1))) 0 = some (upR vM 3 (upd (upd (upd (upd (vM 3) 3 (nI (z 3 - 1))) 0 (nI (z (4 + 3 * (z 3 - 1))))) 1 (nI (z (5 + 3 * (z 3 - 1))))) 2 (nI (z (6 + 3 * (z 3 - 1)))))) := by
    rw [show FU = 996 + 1 + 1 + 1 + 1 from rfl]
    show m_X6_undo_L35B (m_X6_undo_L35 (996 + 1 + 1 + 1)) _ (nI (4 + 3 * (z 3 - 1))) (nI 0) = _
    unfold m_X6_undo_L35B
    rw [if_neg (by decide), nI_add, grd_t (inb_nI (by omega) (by omega)), grd_t (inb_nI (by omega) (by omega)), cl (by omega), cl (by omega), show 4 + 3 * (z 3 - 1) + 0 = 4 + 3 * (z 3 - 1) from rfl, upR_eq, upd_ne _ _ (by omega), b1, nI_1, st_upR]
    show m_X6_undo_L35B (m_X6_undo_L35 (996 + 1 + 1)) _ (nI (4 + 3 * (z 3 - 1))) (nI 1) = _
    unfold m_X6_undo_L35B
    rw [if_neg (by decide), nI_add, grd_t (inb_nI (by omega) (by omega)), grd_t (inb_nI (by omega) (by omega)), cl (by omega), cl (by omega), upR_eq, upd_ne _ _ (by omega), upd_ne _ _ (by omega), show 4 + 3 * (z 3 - 1) + 1 = 5 + 3 * (z 3 - 1) by omega, b2, nI_1, st_upR]
    show m_X6_undo_L35B (m_X6_undo_L35 (996 + 1)) _ (nI (4 + 3 * (z 3 - 1))) (nI 2) = _
    unfold m_X6_undo_L35B
    rw [if_neg (by decide), nI_add, grd_t (inb_nI (by omega) (by omega)), grd_t (inb_nI (by omega) (by omega)), cl (by omega), cl (by omega), upR_eq, upd_ne _ _ (by omega), upd_ne _ _ (by omega), upd_ne _ _ (by omega), show 4 + 3 * (z 3 - 1) + 2 = 6 + 3 * (z 3 - 1) by omega, b3, nI_1, st_upR]
    show m_X6_undo_L35B (m_X6_undo_L35 996) _ (nI (4 + 3 * (z 3 - 1))) (nI 3) = _
    unfold m_X6_undo_L35B
    rw [if_pos (by decide)]
  rw [hL, bnd_s, upR_eq]
  obtain ⟨e0, e1, e2⟩ := sUndo_0 z
  refine ⟨_, by rw [upd_ne _ _ (by omega), upd_ne _ _ (by omega), upd_ne _ _ (by omega), upd_eq], ?_, ?_, ?_, ?_, fun k hk => ?_⟩
  · rw [e0, upd_ne _ _ (by omega), upd_ne _ _ (by omega), upd_eq]
  · rw [e1, upd_ne _ _ (by omega), upd_eq]
  · rw [e2, upd_eq]
  · rw [sUndo_3, upd_ne _ _ (by omega), upd_ne _ _ (by omega), upd_ne _ _ (by omega), upd_eq]
  · rw [sUndo_3] at hk
    simp only [Nat.zero_add]
    rw [sUndo_k _ (by omega), sUndo_k _ (by omega), sUndo_k _ (by omega)]
    refine ⟨?_, ?_, ?_⟩
    · rw [upd_ne _ _ (by omega), upd_ne _ _ (by omega), upd_ne _ _ (by omega), upd_ne _ _ (by omega)]; exact (a4 k (by omega)).1
    · rw [upd_ne _ _ (by omega), upd_ne _ _ (by omega), upd_ne _ _ (by omega), upd_ne _ _ (by omega)]; exact (a4 k (by omega)).2.1
    · rw [upd_ne _ _ (by omega), upd_ne _ _ (by omega), upd_ne _ _ (by omega), upd_ne _ _ (by omega)]; exact (a4 k (by omega)).2.2
theorem ls_9 (K : (Nat → Nat) → Ob → Prop) : LS9 (Inv K) := by
  intro j vX vR vY vC vW vD vS vI vJ vT vM uT hj hI
  obtain ⟨hT, ⟨w, hIW, ⟨z, hSV, hSC, hSM⟩, hi1, hi2, hK⟩, hC, ht⟩ := id hI
  have a3 := hSM.2.2.2.1
  rw [Nat.zero_add] at a3
  by_cases h0 : z 3 = 0
  · unfold m_X5_undo m_X6_undo
    rw [hSC.2.2.2.1, c3, a3, h0, if_pos (show nI 0 = 0 from rfl), if_pos (show nI 0 = 0 from rfl)]
    exact ⟨_, _, rfl, rfl, rfl, hI.same⟩
  · obtain ⟨v', e1, k1⟩ := recC hSC (by omega) hSV.2.1
    obtain ⟨f, e2, k2⟩ := undoM hSM (by omega) hSV.2.1
    rw [e2]
    unfold m_X5_undo
    rw [hSC.2.2.2.1, if_neg (nI_ne0 (by omega) (by have := hSV.2.1; omega)), e1, bnd_s]
    exact ⟨_, _, rfl, rfl, by show v' 0 3 = nI (z 3 - 1); rw [k1.2.2.2.1, sUndo_3], hT.up rfl rfl, IMz hIW hi1 hi2 hK (sUndo_V hSV (by omega)) k1 k2, hC.up rfl rfl rfl rfl, ht⟩
theorem likeC {z : Nat → Nat} {v u : Ob} (h : SC z u) (h12 : z 3 ≤ 12) : ∃ v', m_X2_becomeLike v u = some v' ∧ SC z v' ∧ v' 0 4 = v 0 4 := by
  obtain ⟨a0, a1, a2, a3, a4⟩ := h
  refine ⟨_, rfl, ⟨a0, a1, a2, a3, fun k hk => ?_⟩, rfl⟩
  show va_cpy (u 6) (v 6) (Int32.toNatClampNeg 0) (Int32.toNatClampNeg 0) (Int32.toNatClampNeg 12) k = _ ∧ va_cpy (u 7) (v 7) (Int32.toNatClampNeg 0) (Int32.toNatClampNeg 0) (Int32.toNatClampNeg 12) k = _ ∧ va_cpy (u 8) (v 8) (Int32.toNatClampNeg 0) (Int32.toNatClampNeg 0) (Int32.toNatClampNeg 12) k = _
  rw [c0, c12, pk_cpy_in (by omega) (by omega), pk_cpy_in (by omega) (by omega), pk_cpy_in (by omega) (by omega), show 0 + (k - 0) = k by omega]
  exact a4 k hk
theorem SM.cong {z : Nat → Nat} {f g : Nat → Int32} {d d' : Nat} (h : SM z f d) (h12 : z 3 ≤ 12) (he : ∀ k, k < 40 → g (d' + k) = f (d + k)) : SM z g d' := by
  obtain ⟨a0, a1, a2, a3, a4⟩ := h
  refine ⟨(he 0 (by omega)).trans a0, (he 1 (by omega)).trans a1, (he 2 (by omega)).trans a2, (he 3 (by omega)).trans a3, fun k hk => ?_⟩
  obtain ⟨b1, b2, b3⟩ := a4 k hk
  exact ⟨(he _ (by omega)).trans b1, (he _ (by omega)).trans b2, (he _ (by omega)).trans b3⟩
def cpF (f g : Nat → Int32) (s d i : Nat) : Nat → Int32 := fun k => if d ≤ k ∧ k < d + i then f (s + (k - d)) else g k
theorem cpF_s (f g : Nat → Int32) (s d i : Nat) : upd (cpF f g s d i) (d + i) (f (s + i)) = cpF f g s d (i + 1) := by
  funext k
  by_cases h : k = d + i
  · subst h; rw [upd_eq]; unfold cpF; rw [if_pos (by omega), show s + (d + i - d) = s + i by omega]
  · rw [upd_ne _ _ h]; unfold cpF
    by_cases h2 : d ≤ k ∧ k < d + i
    · rw [if_pos h2, if_pos (by omega)]
    · rw [if_neg h2, if_neg (by omega)]
theorem cpF_0 (f g : Nat → Int32) (s d : Nat) : cpF f g s d 0 = g := by funext k; unfold cpF; rw [if_neg (by omega)]
theorem keepL (vM : Ob) {b : Nat} (hb : b < 2) : ∀ (n i : Nat), 40 < i + n → i ≤ 40 → m_X6_keep_L11 n (upR vM 4 (cpF (vM 3) (vM 4) 0 (40 * b) i)) (nI b) (nI i) = some (upR vM 4 (cpF (vM 3) (vM 4) 0 (40 * b) 40), nI b)
  | 0, i, h, h2 => by omega
  | n + 1, i, h, h2 => by
    show m_X6_keep_L11B (m_X6_keep_L11 n) _ (nI b) (nI i) = _
    unfold m_X6_keep_L11B
    by_cases h40 : i = 40
    · subst h40; rw [if_pos (by decide)]
    · have e : (40 : Int32) * nI b + nI i = nI (40 * b + i) := by rw [show (40 : Int32) = nI 40 from rfl, pk_mul, nI_add]
      rw [if_neg (by rw [show (40 : Int32) = nI 40 from rfl]; exact nI_ge (by omega) (by omega)), grd_t (inb_nI (by omega) (by omega)), e, grd_t (inb_nI (by omega) (by omega)), cl (by omega), cl (by omega), upR_ne _ _ (by omega), st_upR, nI_1]
      have := cpF_s (vM 3) (vM 4) 0 (40 * b) i
      rw [Nat.zero_add] at this
      rw [this]
      exact keepL vM hb n (i + 1) (by omega) (by omega)
theorem backL (vM : Ob) {b : Nat} (hb : b < 2) : ∀ (n i : Nat), 40 < i + n → i ≤ 40 → m_X6_back_L23 n (upR vM 3 (cpF (vM 4) (vM 3) (40 * b) 0 i)) (nI b) (nI i) = some (upR vM 3 (cpF (vM 4) (vM 3) (40 * b) 0 40))
  | 0, i, h, h2 => by omega
  | n + 1, i, h, h2 => by
    show m_X6_back_L23B (m_X6_back_L23 n) _ (nI b) (nI i) = _
    unfold m_X6_back_L23B
    by_cases h40 : i = 40
    · subst h40; rw [if_pos (by decide)]
    · have e : (40 : Int32) * nI b + nI i = nI (40 * b + i) := by rw [show (40 : Int32) = nI 40 from rfl, pk_mul, nI_add]
      rw [if_neg (by rw [show (40 : Int32) = nI 40 from rfl]; exact nI_ge (by omega) (by omega)), e, grd_t (inb_nI (by omega) (by omega)), grd_t (inb_nI (by omega) (by omega)), cl (by omega), cl (by omega), upR_ne _ _ (by omega), st_upR, nI_1]
      have := cpF_s (vM 4) (vM 3) (40 * b) 0 i
      rw [Nat.zero_add] at this
      rw [this]
      exact backL vM hb n (i + 1) (by omega) (by omega)
theorem isTwoM (x : Int32) : m_X6_isTwo x = some (if 0 ≤ x.toInt ∧ x.toInt ≤ 1 then 1 else 0) := by
  unfold m_X6_isTwo
  rw [pw_in, bnd_s, Int32.toInt_toInt64, show (0 : Int64).toInt = 0 by decide, show (1 : Int64).toInt = 1 by decide, grd_t (bz_bi _)]
theorem keepM (vM : Ob) {b : Nat} (hb : b < 2) : m_X6_keep vM (nI b) = some (vM 3 1, st (upR vM 4 (cpF (vM 3) (vM 4) 0 (40 * b) 40)) 5 b 1) := by
  unfold m_X6_keep
  have h := keepL vM hb FU 0 (by decide) (by omega)
  rw [cpF_0, upR_self] at h
  rw [isTwoM, bnd_s, if_bi, if_pos (by rw [nI_toInt (by omega)]; omega), show (0 : Int32) = nI 0 from rfl, h, bnd_s, grd_t (inb_nI hb (by omega)), cl (by omega), c1, show vp_nar .boolean (1 : Int32) = 1 by decide]
  rfl
theorem imageOf0 (vX : Ob) : m_X5_imageOf vX (nI 0) = some 0 := rfl
theorem imageOf1 (vX : Ob) : m_X5_imageOf vX (nI 1) = some 1 := by unfold m_X5_imageOf; rw [if_neg (by decide)]
theorem ls_22 (K : (Nat → Nat) → Ob → Prop) : LS22 (Inv K) := by
  intro j vX vR vY vC vW vD vS vI vJ vT vM uT hj hI y
  obtain ⟨hT, ⟨w, hIW, ⟨z, hSV, hSC, hSM⟩, hi1, hi2, hK⟩, hC, ht⟩ := id hI
  have a1 := hSM.2.1
  rw [Nat.zero_add] at a1
  have h12 := hSV.2.1
  rcases is_or y 2 (by omega) with ⟨b, hb, rfl⟩ | hb
  · rw [keepM vM hb]
    unfold m_X5_keep
    rw [pw_isWithin, bnd_s, if_bi, show (0 : Int32).toInt = 0 by decide, show (1 : Int32).toInt = 1 by decide, if_pos (by rw [nI_toInt (by omega)]; omega)]
    rcases (show b = 0 ∨ b = 1 by omega) with rfl | rfl
    · obtain ⟨v', e1, k1, f1⟩ := likeC (v := vI) hSC h12
      rw [imageOf0, bnd_s, if0, e1, bnd_s]
      refine ⟨_, _, rfl, rfl, by show vS 0 1 = vM 3 1; rw [hSC.2.1, a1], hT.up rfl rfl, ⟨w, hIW.up rfl, ⟨z, hSV, hSC, hSM⟩, ⟨1, z, by omega, rfl, rfl, fun _ => ⟨hSV, k1, hSM.cong h12 (fun k hk => ?_)⟩⟩, ?_, hK⟩, hC.up rfl rfl rfl rfl, ht⟩
      · show cpF (vM 3) (vM 4) 0 (40 * 0) 40 (0 + k) = vM 3 (0 + k)
        unfold cpF; rw [if_pos (by omega)]; congr 1; omega
      · obtain ⟨q, zj, b1, b2, b3, b4⟩ := hi2
        refine ⟨q, zj, b1, b2, b3, fun hq => ?_⟩
        obtain ⟨s1, s2, s3⟩ := b4 hq
        refine ⟨s1, s2, s3.cong s1.2.1 (fun k hk => ?_)⟩
        show cpF (vM 3) (vM 4) 0 (40 * 0) 40 (40 + k) = vM 4 (40 + k)
        unfold cpF; rw [if_neg (by omega)]
    · obtain ⟨v', e1, k1, f1⟩ := likeC (v := vJ) hSC h12
      rw [imageOf1, bnd_s, if1, e1, bnd_s]
      refine ⟨_, _, rfl, rfl, by show vS 0 1 = vM 3 1; rw [hSC.2.1, a1], hT.up rfl rfl, ⟨w, hIW.up rfl, ⟨z, hSV, hSC, hSM⟩, ?_, ⟨1, z, by omega, rfl, rfl, fun _ => ⟨hSV, k1, hSM.cong h12 (fun k hk => ?_)⟩⟩, hK⟩, hC.up rfl rfl rfl rfl, ht⟩
      · obtain ⟨q, zj, b1, b2, b3, b4⟩ := hi1
        refine ⟨q, zj, b1, b2, b3, fun hq => ?_⟩
        obtain ⟨s1, s2, s3⟩ := b4 hq
        refine ⟨s1, s2, s3.cong s1.2.1 (fun k hk => ?_)⟩
        show cpF (vM 3) (vM 4) 0 (40 * 1) 40 (0 + k) = vM 4 (0 + k)
        unfold cpF; rw [if_neg (by omega)]
      · show cpF (vM 3) (vM 4) 0 (40 * 1) 40 (40 + k) = vM 3 (0 + k)
        unfold cpF; rw [if_pos (by omega)]; congr 1; omega
  · unfold m_X5_keep m_X6_keep
    rw [pw_isWithin, isTwoM, bnd_s, bnd_s, if_bi, if_bi, show (0 : Int32).toInt = 0 by decide, show (1 : Int32).toInt = 1 by decide, if_neg (by omega), if_neg (by omega)]
    exact ⟨_, _, rfl, rfl, rfl, hI.same⟩
theorem ls_23 (K : (Nat → Nat) → Ob → Prop) : LS23 (Inv K) := by
  intro j vX vR vY vC vW vD vS vI vJ vT vM uT hj hI y
  obtain ⟨hT, ⟨w, hIW, hIS, hi1, hi2, hK⟩, hC, ht⟩ := id hI
  rcases is_or y 2 (by omega) with ⟨b, hb, rfl⟩ | hb
  · unfold m_X5_back m_X6_back
    have hL := backL vM hb FU 0 (by decide) (by omega)
    have hp : 0 ≤ (nI b).toInt ∧ (nI b).toInt ≤ 1 := by rw [nI_toInt (by omega)]; omega
    rw [cpF_0, upR_self] at hL
    rw [pw_isWithin, isTwoM, bnd_s, bnd_s, if_bi, if_bi, show (0 : Int32).toInt = 0 by decide, show (1 : Int32).toInt = 1 by decide, if_pos hp, if_pos hp, grd_t (inb_nI hb (by omega)), cl (by omega)]
    clear hp
    rcases (show b = 0 ∨ b = 1 by omega) with rfl | rfl
    · obtain ⟨q, z, b1, b2, b3, b4⟩ := id hi1
      rw [imageOf0, bnd_s, if0, b2, b3]
      by_cases hq : q = 0
      · subst hq
        rw [if_pos (show nI 0 = 0 from rfl), if_pos (show nI 0 = 0 from rfl)]
        exact ⟨_, _, rfl, rfl, rfl, hI.same⟩
      · obtain ⟨s1, s2, s3⟩ := b4 (by omega)
        obtain ⟨v', e1, k1, f1⟩ := likeC (v := vS) s2 s1.2.1
        rw [if_neg (nI_ne0 (by omega) (by omega)), if_neg (nI_ne0 (by omega) (by omega)), e1, bnd_s, show (0 : Int32) = nI 0 from rfl, hL, bnd_s, upR_eq, c1]
        have hm : SM z (cpF (vM 4) (vM 3) (40 * 0) 0 40) 0 := s3.cong s1.2.1 (fun k hk => by unfold cpF; rw [if_pos (by omega), show 40 * 0 + (0 + k - 0) = 0 + k by omega])
        have hm1 := hm.2.1
        rw [Nat.zero_add] at hm1
        exact ⟨_, _, rfl, rfl, by show v' 0 1 = cpF (vM 4) (vM 3) (40 * 0) 0 40 1; rw [k1.2.1, hm1], hT.up rfl rfl, IMz hIW hi1 hi2 hK s1 k1 hm, hC.up rfl rfl rfl rfl, ht⟩
    · obtain ⟨q, z, b1, b2, b3, b4⟩ := id hi2
      rw [imageOf1, bnd_s, if1, b2, b3]
      by_cases hq : q = 0
      · subst hq
        rw [if_pos (show nI 0 = 0 from rfl), if_pos (show nI 0 = 0 from rfl)]
        exact ⟨_, _, rfl, rfl, rfl, hI.same⟩
      · obtain ⟨s1, s2, s3⟩ := b4 (by omega)
        obtain ⟨v', e1, k1, f1⟩ := likeC (v := vS) s2 s1.2.1
        rw [if_neg (nI_ne0 (by omega) (by omega)), if_neg (nI_ne0 (by omega) (by omega)), e1, bnd_s, show (0 : Int32) = nI 0 from rfl, hL, bnd_s, upR_eq, c1]
        have hm : SM z (cpF (vM 4) (vM 3) (40 * 1) 0 40) 0 := s3.cong s1.2.1 (fun k hk => by unfold cpF; rw [if_pos (by omega), show 40 * 1 + (0 + k - 0) = 40 + k by omega])
        have hm1 := hm.2.1
        rw [Nat.zero_add] at hm1
        exact ⟨_, _, rfl, rfl, by show v' 0 1 = cpF (vM 4) (vM 3) (40 * 1) 0 40 1; rw [k1.2.1, hm1], hT.up rfl rfl, IMz hIW hi1 hi2 hK s1 k1 hm, hC.up rfl rfl rfl rfl, ht⟩
  · unfold m_X5_back m_X6_back
    rw [pw_isWithin, isTwoM, bnd_s, bnd_s, if_bi, if_bi, show (0 : Int32).toInt = 0 by decide, show (1 : Int32).toInt = 1 by decide, if_neg (by omega), if_neg (by omega)]
    exact ⟨_, _, rfl, rfl, rfl, hI.same⟩
