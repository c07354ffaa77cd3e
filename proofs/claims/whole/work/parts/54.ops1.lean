/-! THE INVARIANT, over a word K on the way that is kept; and the simple calls -/
def IT (j : Nat) (vX vM : Ob) : Prop := ∃ (n : Nat) (x : Nat → Nat), TV n x ∧ n ≤ j ∧ vX 0 1 = nI n ∧ vM 0 6 = nI n ∧ TR n x (vX 1) ∧ TR n x (vM 6)
def IW (j : Nat) (w : Nat → Nat) (vW vM : Ob) : Prop := WV w ∧ WC w vW ∧ WM w (vM 1) ∧ (w 0 = 0 ∨ cost w + 1 ≤ j)
def IS (w : Nat → Nat) (vS vM : Ob) : Prop := ∃ z, SV w z ∧ SC z vS ∧ SM z (vM 3) 0
def II (w : Nat → Nat) (v vM : Ob) (i d : Nat) : Prop := ∃ (k : Nat) (z : Nat → Nat), k ≤ 1 ∧ v 0 4 = nI k ∧ vM 5 i = nI k ∧ (k = 1 → SV w z ∧ SC z v ∧ SM z (vM 4) d)
def IC (vC vM : Ob) : Prop := ∃ (c : Nat) (x : Nat → Nat) (e : Nat) (y : Nat → Nat), (PV c x ∧ vC 0 0 = nI c ∧ vM 0 8 = nI c ∧ PC c x (vC 4) (vC 5) ∧ PM c x (vM 8)) ∧ PV e y ∧ vC 0 1 = nI e ∧ vM 0 10 = nI e ∧ PC e y (vC 6) (vC 7) ∧ PM e y (vM 10)
def IM (K : (Nat → Nat) → Ob → Prop) (j : Nat) (vY vW vS vI vJ vM : Ob) : Prop := ∃ w, IW j w vW vM ∧ IS w vS vM ∧ II w vI vM 0 0 ∧ II w vJ vM 1 40 ∧ K w vY
def Inv (K : (Nat → Nat) → Ob → Prop) (j : Nat) (vX _vR vY vC vW _vD vS vI vJ : Ob) (vT : Int64) (vM : Ob) (uT : Int64) : Prop := IT j vX vM ∧ IM K j vY vW vS vI vJ vM ∧ IC vC vM ∧ vT = uT
theorem IT.up {j : Nat} {vX vM vM' : Ob} (h : IT j vX vM) (h1 : vM' 0 6 = vM 0 6) (h2 : vM' 6 = vM 6) : IT (j + 1) vX vM' := by
  obtain ⟨n, x, a1, a2, a3, a4, a5, a6⟩ := h
  exact ⟨n, x, a1, by omega, a3, by rw [h1]; exact a4, a5, by rw [h2]; exact a6⟩
theorem IW.up {j : Nat} {w : Nat → Nat} {vW vM vM' : Ob} (h : IW j w vW vM) (h1 : vM' 1 = vM 1) : IW (j + 1) w vW vM' := by
  obtain ⟨a1, a2, a3, a4⟩ := h
  exact ⟨a1, a2, by rw [h1]; exact a3, by omega⟩
theorem IS.up {w : Nat → Nat} {vS vM vM' : Ob} (h : IS w vS vM) (h1 : vM' 3 = vM 3) : IS w vS vM' := by
  obtain ⟨z, a1, a2, a3⟩ := h
  exact ⟨z, a1, a2, by rw [h1]; exact a3⟩
theorem II.up {w : Nat → Nat} {v vM vM' : Ob} {i d : Nat} (h : II w v vM i d) (h1 : vM' 4 = vM 4) (h2 : vM' 5 = vM 5) : II w v vM' i d := by
  obtain ⟨k, z, a1, a2, a3, a4⟩ := h
  exact ⟨k, z, a1, a2, by rw [h2]; exact a3, by rw [h1]; exact a4⟩
theorem IC.up {vC vM vM' : Ob} (h : IC vC vM) (h1 : vM' 0 8 = vM 0 8) (h2 : vM' 0 10 = vM 0 10) (h3 : vM' 8 = vM 8) (h4 : vM' 10 = vM 10) : IC vC vM' := by
  obtain ⟨c, x, e, y, ⟨a1, a2, a3, a4, a5⟩, b1, b2, b3, b4, b5⟩ := h
  exact ⟨c, x, e, y, ⟨a1, a2, by rw [h1]; exact a3, a4, by rw [h3]; exact a5⟩, b1, b2, by rw [h2]; exact b3, b4, by rw [h4]; exact b5⟩
theorem IM.up {K : (Nat → Nat) → Ob → Prop} {j : Nat} {vY vW vS vI vJ vM vM' : Ob} (h : IM K j vY vW vS vI vJ vM) (h1 : vM' 1 = vM 1) (h3 : vM' 3 = vM 3) (h4 : vM' 4 = vM 4) (h5 : vM' 5 = vM 5) : IM K (j + 1) vY vW vS vI vJ vM' := by
  obtain ⟨w, a1, a2, a3, a4, a5⟩ := h
  exact ⟨w, a1.up h1, a2.up h3, a3.up h4 h5, a4.up h4 h5, a5⟩
theorem Inv.same {K : (Nat → Nat) → Ob → Prop} {j : Nat} {vX vR vY vC vW vD vS vI vJ : Ob} {vT : Int64} {vM : Ob} {uT : Int64} (h : Inv K j vX vR vY vC vW vD vS vI vJ vT vM uT) : Inv K (j + 1) vX vR vY vC vW vD vS vI vJ vT vM uT := ⟨h.1.up rfl rfl, h.2.1.up rfl rfl rfl rfl, h.2.2.1, h.2.2.2⟩
theorem ls_d (K : (Nat → Nat) → Ob → Prop) : LSD (Inv K) := fun _ _ _ _ _ _ _ _ _ _ _ _ _ _ h => h.same
theorem ls_0 (K : (Nat → Nat) → Ob → Prop) : LS0 (Inv K) := by
  intro j vX vR vY vC vW vD vS vI vJ vT vM uT hj hI y
  obtain ⟨⟨n, x, ⟨hn, hx⟩, hnj, e1, e2, r1, r2⟩, hM, hC, ht⟩ := id hI
  unfold m_X5_type m_X6_type
  rw [pw_isWithin, pw_in, bnd_s, bnd_s, if_bi, if_bi, Int32.toInt_toInt64, show (0 : Int32).toInt = 0 by decide, show (255 : Int32).toInt = 255 by decide, show (0 : Int64).toInt = 0 by decide, show (255 : Int64).toInt = 255 by decide, e1, e2]
  rcases is_or y 256 (by omega) with ⟨k, hk, rfl⟩ | hb
  · have hk' : 0 ≤ (nI k).toInt ∧ (nI k).toInt ≤ 255 := by rw [nI_toInt (by omega)]; omega
    rw [if_pos hk', if_pos hk', if_neg (nI_pos (by omega)), show (200 : Int32) = nI 200 from rfl, if_nI (by omega) (by omega)]
    by_cases h2 : n = 200
    · subst h2
      rw [if_neg (nI_nlt (Nat.le_refl _) (by omega)), if_pos rfl]
      exact ⟨_, _, rfl, rfl, rfl, hI.same⟩
    · rw [if_pos (nI_lt (by omega) (by omega)), if_neg h2, grd_t (inb_nI (by omega) (by omega)), grd_t (inb_nI (by omega) (by omega)), cl (by omega)]
      refine ⟨_, _, rfl, rfl, rfl, ⟨n + 1, fun i => if i = n then k else x i, ⟨by omega, fun i hi => ?_⟩, by omega, nI_1 n, nI_1 n, fun i hi => ?_, fun i hi => ?_⟩, hM.up rfl rfl rfl rfl, hC.up rfl rfl rfl rfl, ht⟩
      · show (if i = n then k else x i) < 256
        split
        · exact hk
        · exact hx i (by omega)
      · show upd (vX 1) n (nI k) i = nI (if i = n then k else x i)
        by_cases hin : i = n
        · subst hin; rw [upd_eq, if_pos rfl]
        · rw [upd_ne _ _ hin, if_neg hin]; exact r1 i (by omega)
      · show upd (vM 6) n (nI k) i = nI (if i = n then k else x i)
        by_cases hin : i = n
        · subst hin; rw [upd_eq, if_pos rfl]
        · rw [upd_ne _ _ hin, if_neg hin]; exact r2 i (by omega)
  · rw [if_neg (by omega), if_neg (by omega)]
    exact ⟨_, _, rfl, rfl, rfl, hI.same⟩
theorem ls_1 (K : (Nat → Nat) → Ob → Prop) : LS1 (Inv K) := by
  intro j vX vR vY vC vW vD vS vI vJ vT vM uT hj hI
  obtain ⟨⟨n, x, ⟨hn, hx⟩, hnj, e1, e2, r1, r2⟩, hM, hC, ht⟩ := hI
  refine ⟨_, _, rfl, rfl, by show vX 0 1 = vM 0 6; rw [e1, e2], ⟨0, x, ⟨by omega, fun i hi => by omega⟩, by omega, nI_0.symm, nI_0.symm, fun i hi => by omega, fun i hi => by omega⟩, hM.up rfl rfl rfl rfl, hC.up rfl rfl rfl rfl, ht⟩
theorem ls_25 (K : (Nat → Nat) → Ob → Prop) : LS25 (Inv K) := by
  intro j vX vR vY vC vW vD vS vI vJ vT vM uT hj hI
  exact ⟨_, _, rfl, rfl, hI.2.2.2, hI.same⟩
theorem seatC (x : Int32) : m_X5_isSeat x = some (if 0 ≤ x.toInt ∧ x.toInt ≤ 4 then 1 else 0) := by
  unfold m_X5_isSeat
  rw [pw_isWithin, bnd_s, show (0 : Int32).toInt = 0 by decide, show (4 : Int32).toInt = 4 by decide, grd_t (bz_bi _)]
theorem seatM (x : Int32) : m_X6_isSeat x = some (if 0 ≤ x.toInt ∧ x.toInt ≤ 4 then 1 else 0) := by
  unfold m_X6_isSeat
  rw [pw_in, bnd_s, Int32.toInt_toInt64, show (0 : Int64).toInt = 0 by decide, show (4 : Int64).toInt = 4 by decide, grd_t (bz_bi _)]
theorem pv_add {c : Nat} {x : Nat → Nat} {a b : Nat} (h : PV c x) (hc : c < 6) (ha : a < 5) (hb : b < 5) : PV (c + 1) (fun i => if i = 2 * c then a else if i = 2 * c + 1 then b else x i) := by
  refine ⟨by omega, fun k hk => ?_⟩
  show (if k = 2 * c then a else if k = 2 * c + 1 then b else x k) < 5
  split
  · exact ha
  · split
    · exact hb
    · exact h.2 k (by omega)
theorem pc_add {c : Nat} {x : Nat → Nat} {a b : Nat} {v u : Nat → Int32} (h : PC c x v u) : PC (c + 1) (fun i => if i = 2 * c then a else if i = 2 * c + 1 then b else x i) (upd v c (nI a)) (upd u c (nI b)) := by
  intro k hk
  show upd v c (nI a) k = nI (if 2 * k = 2 * c then a else if 2 * k = 2 * c + 1 then b else x (2 * k)) ∧ upd u c (nI b) k = nI (if 2 * k + 1 = 2 * c then a else if 2 * k + 1 = 2 * c + 1 then b else x (2 * k + 1))
  by_cases hkc : k = c
  · subst hkc
    rw [upd_eq, upd_eq, if_pos rfl, if_neg (by omega), if_pos rfl]
    exact ⟨rfl, rfl⟩
  · rw [upd_ne _ _ hkc, upd_ne _ _ hkc, if_neg (by omega), if_neg (by omega), if_neg (by omega), if_neg (by omega)]
    exact h k (by omega)
theorem pm_add {c : Nat} {x : Nat → Nat} {a b : Nat} {v : Nat → Int32} (h : PM c x v) : PM (c + 1) (fun i => if i = 2 * c then a else if i = 2 * c + 1 then b else x i) (upd (upd v (2 * c) (nI a)) (2 * c + 1) (nI b)) := by
  intro k hk
  show upd (upd v (2 * c) (nI a)) (2 * c + 1) (nI b) (2 * k) = nI (if 2 * k = 2 * c then a else if 2 * k = 2 * c + 1 then b else x (2 * k)) ∧ upd (upd v (2 * c) (nI a)) (2 * c + 1) (nI b) (2 * k + 1) = nI (if 2 * k + 1 = 2 * c then a else if 2 * k + 1 = 2 * c + 1 then b else x (2 * k + 1))
  by_cases hkc : k = c
  · subst hkc
    rw [upd_ne _ _ (by omega), upd_eq, upd_eq, if_pos rfl, if_neg (by omega), if_pos rfl]
    exact ⟨rfl, rfl⟩
  · rw [upd_ne _ _ (by omega), upd_ne _ _ (by omega), upd_ne _ _ (by omega), upd_ne _ _ (by omega), if_neg (by omega), if_neg (by omega), if_neg (by omega), if_neg (by omega)]
    exact h k (by omega)
theorem ls_17 (K : (Nat → Nat) → Ob → Prop) : LS17 (Inv K) := by
  intro j vX vR vY vC vW vD vS vI vJ vT vM uT hj hI y1 y2
  obtain ⟨hT, hM, ⟨c, x, e, y, ⟨a1, a2, a3, a4, a5⟩, b1, b2, b3, b4, b5⟩, ht⟩ := id hI
  unfold m_X5_swaps m_X6_swaps
  rw [seatC, seatM, bnd_s, bnd_s, if_bi, if_bi]
  rcases is_or y1 5 (by omega) with ⟨p, hp, rfl⟩ | hb
  · have hp' : 0 ≤ (nI p).toInt ∧ (nI p).toInt ≤ 4 := by rw [nI_toInt (by omega)]; omega
    rw [if_pos hp', if_pos hp', seatC, seatM, bnd_s, bnd_s, if_bi, if_bi]
    rcases is_or y2 5 (by omega) with ⟨q, hq, rfl⟩ | hb
    · have hq' : 0 ≤ (nI q).toInt ∧ (nI q).toInt ≤ 4 := by rw [nI_toInt (by omega)]; omega
      rw [if_pos hq', if_pos hq', if_nI (by omega) (by omega), if_nI (by omega) (by omega)]
      by_cases hpq : p = q
      · rw [if_pos hpq, if_pos hpq]
        exact ⟨_, _, rfl, rfl, rfl, hI.same⟩
      · rw [if_neg hpq, if_neg hpq, a3]
        unfold m_X0_addSwap
        have hc6 := a1.1
        rw [pw_isWithin, bnd_s, if_bi, a2, nI_toInt (by omega), show (0 : Int32).toInt = 0 by decide, show (5 : Int32).toInt = 5 by decide, show (6 : Int32) = nI 6 from rfl, if_nI (by omega) (by omega)]
        by_cases h6 : c = 6
        · rw [if_neg (by omega), if_pos h6, bnd_s]
          exact ⟨_, _, rfl, rfl, rfl, hI.same⟩
        · have e2 : (2 : Int32) * nI c = nI (2 * c) := pk_mul 2 c
          rw [if_pos (by omega), if_neg h6, grd_t (inb_nI (by omega) (by omega)), grd_t (inb_nI (by omega) (by omega)), cl (by omega), bnd_s, e2, nI_1, nI_1, grd_t (inb_nI (by omega) (by omega)), grd_t (inb_nI (by omega) (by omega)), cl (by omega), cl (by omega)]
          refine ⟨_, _, rfl, rfl, rfl, hT.up rfl rfl, hM.up rfl rfl rfl rfl, ⟨c + 1, _, e, y, ⟨pv_add a1 (by omega) hp hq, rfl, rfl, pc_add a4, pm_add a5⟩, b1, b2, b3, b4, b5⟩, ht⟩
    · rw [if_neg (by omega), if_neg (by omega)]
      exact ⟨_, _, rfl, rfl, rfl, hI.same⟩
  · rw [if_neg (by omega), if_neg (by omega)]
    exact ⟨_, _, rfl, rfl, rfl, hI.same⟩
theorem ls_18 (K : (Nat → Nat) → Ob → Prop) : LS18 (Inv K) := by
  intro j vX vR vY vC vW vD vS vI vJ vT vM uT hj hI y1 y2
  obtain ⟨hT, hM, ⟨c, x, e, y, ⟨a1, a2, a3, a4, a5⟩, b1, b2, b3, b4, b5⟩, ht⟩ := id hI
  unfold m_X5_tastes m_X6_tastes
  rw [seatC, seatM, bnd_s, bnd_s, if_bi, if_bi]
  rcases is_or y1 5 (by omega) with ⟨p, hp, rfl⟩ | hb
  · have hp' : 0 ≤ (nI p).toInt ∧ (nI p).toInt ≤ 4 := by rw [nI_toInt (by omega)]; omega
    rw [if_pos hp', if_pos hp', seatC, seatM, bnd_s, bnd_s, if_bi, if_bi]
    rcases is_or y2 5 (by omega) with ⟨q, hq, rfl⟩ | hb
    · have hq' : 0 ≤ (nI q).toInt ∧ (nI q).toInt ≤ 4 := by rw [nI_toInt (by omega)]; omega
      rw [if_pos hq', if_pos hq', b3]
      unfold m_X0_addTaste
      have hc6 := b1.1
      rw [pw_isWithin, bnd_s, if_bi, b2, nI_toInt (by omega), show (0 : Int32).toInt = 0 by decide, show (5 : Int32).toInt = 5 by decide, show (6 : Int32) = nI 6 from rfl, if_nI (by omega) (by omega)]
      by_cases h6 : e = 6
      · rw [if_neg (by omega), if_pos h6, bnd_s]
        exact ⟨_, _, rfl, rfl, rfl, hI.same⟩
      · have e2 : (2 : Int32) * nI e = nI (2 * e) := pk_mul 2 e
        rw [if_pos (by omega), if_neg h6, grd_t (inb_nI (by omega) (by omega)), grd_t (inb_nI (by omega) (by omega)), cl (by omega), bnd_s, e2, nI_1, nI_1, grd_t (inb_nI (by omega) (by omega)), grd_t (inb_nI (by omega) (by omega)), cl (by omega), cl (by omega)]
        refine ⟨_, _, rfl, rfl, rfl, hT.up rfl rfl, hM.up rfl rfl rfl rfl, ⟨c, x, e + 1, _, ⟨a1, a2, a3, a4, a5⟩, pv_add b1 (by omega) hp hq, rfl, rfl, pc_add b4, pm_add b5⟩, ht⟩
    · rw [if_neg (by omega), if_neg (by omega)]
      exact ⟨_, _, rfl, rfl, rfl, hI.same⟩
  · rw [if_neg (by omega), if_neg (by omega)]
    exact ⟨_, _, rfl, rfl, rfl, hI.same⟩
theorem ls_19 (K : (Nat → Nat) → Ob → Prop) : LS19 (Inv K) := by
  intro j vX vR vY vC vW vD vS vI vJ vT vM uT hj hI
  obtain ⟨hT, hM, ⟨c, x, e, y, ⟨a1, a2, a3, a4, a5⟩, b1, b2, b3, b4, b5⟩, ht⟩ := hI
  refine ⟨_, _, rfl, rfl, by show vC 0 0 + vC 0 1 = vM 0 8 + vM 0 10; rw [a2, a3, b2, b3], hT.up rfl rfl, hM.up rfl rfl rfl rfl, ⟨0, x, 0, y, ⟨⟨by omega, fun k hk => by omega⟩, nI_0.symm, nI_0.symm, fun k hk => by omega, fun k hk => by omega⟩, ⟨by omega, fun k hk => by omega⟩, nI_0.symm, nI_0.symm, fun k hk => by omega, fun k hk => by omega⟩, ht⟩
theorem ls_24 (K : (Nat → Nat) → Ob → Prop) : LS24 (Inv K) := by
  intro j vX vR vY vC vW vD vS vI vJ vT vM uT hj hI y1
  obtain ⟨⟨n, tx, hTV, hnj, e1, e2, r1, r2⟩, ⟨w, ⟨hV, hWC, hWM, hco⟩, ⟨z, hSV, hSC, hSM⟩, hi1, hi2, hK⟩, ⟨c, x, e, y, ⟨a1, a2, a3, a4, a5⟩, b1, b2, b3, b4, b5⟩, ht⟩ := id hI
  unfold m_X5_count m_X6_count
  by_cases h0 : y1 = 0
  · subst h0; rw [if_pos rfl, if_pos rfl, grd_t (by decide), c0]
    exact ⟨_, _, rfl, rfl, by rw [hWC.1, hWM.1], hI.same⟩
  rw [if_neg h0, if_neg h0]
  by_cases h1 : y1 = 1
  · subst h1; rw [if_pos rfl, if_pos rfl, grd_t (by decide), c1]
    exact ⟨_, _, rfl, rfl, by rw [hWC.2.1, hWM.2.1], hI.same⟩
  rw [if_neg h1, if_neg h1]
  by_cases h2 : y1 = 2
  · subst h2; rw [if_pos rfl, if_pos rfl, grd_t (by decide), c2]
    exact ⟨_, _, rfl, rfl, by rw [hWC.2.2.1, hWM.2.2.1], hI.same⟩
  rw [if_neg h2, if_neg h2]
  by_cases h3 : y1 = 3
  · subst h3; rw [if_pos rfl, if_pos rfl, grd_t (by decide), c3]
    exact ⟨_, _, rfl, rfl, by rw [hWC.2.2.2.1, hWM.2.2.2.1], hI.same⟩
  rw [if_neg h3, if_neg h3]
  by_cases h4 : y1 = 4
  · rw [if_pos h4, if_pos h4]; exact ⟨_, _, rfl, rfl, by rw [a2, a3], hI.same⟩
  rw [if_neg h4, if_neg h4]
  by_cases h5 : y1 = 5
  · rw [if_pos h5, if_pos h5]; exact ⟨_, _, rfl, rfl, by rw [b2, b3], hI.same⟩
  rw [if_neg h5, if_neg h5]
  by_cases h6 : y1 = 6
  · rw [if_pos h6, if_pos h6, c3]; exact ⟨_, _, rfl, rfl, by rw [hSC.2.2.2.1]; exact hSM.2.2.2.1.symm, hI.same⟩
  rw [if_neg h6, if_neg h6]
  by_cases h7 : y1 = 7
  · rw [if_pos h7, if_pos h7]; exact ⟨_, _, rfl, rfl, by rw [e1, e2], hI.same⟩
  rw [if_neg h7, if_neg h7]
  exact ⟨_, _, rfl, rfl, rfl, hI.same⟩
