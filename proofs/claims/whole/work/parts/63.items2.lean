/-! PURE: each item, by both -/
def IFl (vM : Ob) (c : Option (Int32 × Ob × Ob)) (m : Option (Int32 × Ob)) : Prop := ∃ (vR' vD' vM' : Ob) (b : Nat), c = some (0, vR', vD') ∧ m = some (0, vM') ∧ vR' 0 4 = nI b ∧ vM' 0 13 = nI b ∧ b ≤ 200 ∧ FM vM vM'
def IOk (x : Nat → Nat) (n i : Nat) (vM : Ob) (c : Option (Int32 × Ob × Ob)) (m : Option (Int32 × Ob)) : Prop := ∃ (vR' vD' vM' : Ob) (w' : Nat → Nat) (e f' : Nat), c = some (1, vR', vD') ∧ (∀ (r : Int32) (V : Ob), (r = 0 ∨ r = 1) → m_X6_ends vM' = some (r, V) → m = some (r, V)) ∧ RLx x n e f' w' vR' vD' vM' ∧ FM vM vM' ∧ i ≤ e ∧ cost w' ≤ e + 1
theorem RW.out {w : Nat → Nat} {t : Nat → Int32} (h : RW w t) {k : Nat} (v : Int32) (hk : 25 ≤ k) (hr : ∀ r, r < w 1 → k ≠ 25 + r ∧ k ≠ 34 + r ∧ k ≠ 43 + r) (hh : ∀ h, h < w 2 → k ≠ 52 + h ∧ k ≠ 58 + h ∧ k ≠ 64 + h) : RW w (upd t k v) := by
  obtain ⟨h0, h1, h2, h3, h4, h5, h6, h7⟩ := h
  refine ⟨by rw [upd_ne _ _ (by omega)]; exact h0, by rw [upd_ne _ _ (by omega)]; exact h1, by rw [upd_ne _ _ (by omega)]; exact h2, by rw [upd_ne _ _ (by omega)]; exact h3, fun p hp => ?_, fun r hq => ?_, fun q hq => ?_, h7⟩
  · rw [upd_ne _ _ (by omega), upd_ne _ _ (by omega), upd_ne _ _ (by omega)]; exact h4 p hp
  · obtain ⟨a, b, c⟩ := hr r hq
    rw [upd_ne _ _ (by omega), upd_ne _ _ (by omega), upd_ne _ _ (by omega)]; exact h5 r hq
  · obtain ⟨a, b, c⟩ := hh q hq
    rw [upd_ne _ _ (by omega), upd_ne _ _ (by omega), upd_ne _ _ (by omega)]; exact h6 q hq
theorem ends2 {V V' : Ob} {r : Int32} (hr : r = 0 ∨ r = 1) (h : m_X6_ends V = some (r, V')) : ((m_X6_ends V).bind fun o => grd (bz o.1) (some (o.1, o.2))) = some (r, V') := by
  rw [h, bnd_s]
  rcases hr with rfl | rfl
  · exact grd_t bz0 _
  · exact grd_t bz1 _
theorem ends3 {V V' : Ob} {r : Int32} (hr : r = 0 ∨ r = 1) (h : m_X6_ends V = some (r, V')) : ((m_X6_ends V).bind fun o => if o.1 = 0 then (some ((0 : Int32), o.2)) else (some ((1 : Int32), o.2))) = some (r, V') := by
  rw [h, bnd_s]
  rcases hr with rfl | rfl <;> rfl
theorem iPlace {x : Nat → Nat} {n i f b : Nat} {w : Nat → Nat} {vR vD vM : Ob} (h : RLx x n i f w vR vD vM) (hc : cost w + 1 ≤ i) (hb : vR 0 4 = nI b) (hb' : vM 0 13 = nI b) (hb2 : b ≤ 200) : IFl vM ((m_X4_addPlace vD).bind fun o80 => grd (bz o80.1) (some (o80.1, vR, o80.2))) (m_X6_places vM) ∨ IOk x n i vM ((m_X4_addPlace vD).bind fun o80 => grd (bz o80.1) (some (o80.1, vR, o80.2))) (m_X6_places vM) := by
  obtain ⟨hP, hf, h7, h16, hW, hC, hR⟩ := h
  have h7w := hW.1
  unfold m_X4_addPlace m_X6_places
  rw [c0, hC.1, hR.1, pw_isWithin, bnd_s, if_bi, nI_toInt (by omega), show (0 : Int32).toInt = 0 by decide, show (6 : Int32).toInt = 6 by decide, show (7 : Int32) = nI 7 from rfl, if_nI (by omega) (by omega), nI_1]
  by_cases h : w 0 = 7
  · left
    rw [if_neg (by omega), if_pos h]
    rw [bnd_s]
    exact ⟨vR, vD, vM, b, grd_t bz0 _, rfl, hb, hb', hb2, FM.refl _⟩
  · right
    rw [if_pos (by omega), if_neg h, grd_t (inb_nI (by omega) (by omega)), grd_t (inb_nI (by omega) (by omega)), grd_t (inb_nI (by omega) (by omega)), cl (by omega), bnd_s]
    have g : ∀ j, j ≠ 0 → updN w 0 (w 0 + 1) j = w j := fun j hj => updN_ne _ _ hj
    have g0 : updN w 0 (w 0 + 1) 0 = w 0 + 1 := updN_eq _ _ _
    obtain ⟨r0, r1, r2, r3, r4, r5, r6, r8⟩ := hR
    obtain ⟨z1, z2, z3⟩ := r8 (w 0) (by omega) (Nat.le_refl _)
    refine ⟨vR, _, st vM 2 0 (nI (w 0 + 1)), updN w 0 (w 0 + 1), i, f, grd_t bz1 _, fun r V hr hV => ends2 hr hV, ⟨hP, hf, h7, h16, ?_, ?_, ?_⟩, FM.st2 _ _ _, Nat.le_refl _, ?_⟩
    · obtain ⟨v0, v1, v2, v3, v4, v5, v6, v7⟩ := hW
      refine ⟨by omega, by rw [g 1 (by omega)]; exact v1, by rw [g 2 (by omega)]; exact v2, by rw [g 3 (by omega)]; exact v3, fun p hp => ?_, fun hp => ?_, fun r hr => ?_, fun q hq => ?_⟩
      · rw [g (4 + p) (by omega), g (11 + p) (by omega), g (18 + p) (by omega)]
        by_cases hpw : p < w 0
        · exact v4 p hpw
        · have : p = w 0 := by omega
          subst this
          omega
      · rw [g 4 (by omega), g 11 (by omega)]
        by_cases h0 : 0 < w 0
        · exact v5 h0
        · obtain ⟨q1, q2, -⟩ := r8 0 (by omega) (by omega)
          exact ⟨q1, q2⟩
      · rw [g 1 (by omega)] at hr
        rw [g (25 + r) (by omega), g (34 + r) (by omega), g (43 + r) (by omega), g0]
        have := v6 r hr
        omega
      · rw [g 2 (by omega)] at hq
        rw [g (52 + q) (by omega), g (58 + q) (by omega), g (64 + q) (by omega), g0]
        have := v7 q hq
        omega
    · obtain ⟨v0, v1, v2, v3, v4, v5, v6⟩ := hC
      refine ⟨by rw [g0]; rfl, by rw [g 1 (by omega)]; exact v1, by rw [g 2 (by omega)]; exact v2, by rw [g 3 (by omega)]; exact v3, fun p hp => ?_, fun r hr => ?_, fun q hq => ?_⟩
      · rw [g (4 + p) (by omega), g (11 + p) (by omega), g (18 + p) (by omega)]
        show upd (vD 5) (w 0) 9 p = _ ∧ upd (vD 6) (w 0) (-9) p = _ ∧ upd (vD 7) (w 0) 24 p = _
        by_cases hpw : p = w 0
        · subst hpw
          rw [upd_eq, upd_eq, upd_eq, z1, z2, z3]
          exact ⟨rfl, gI_24.symm, rfl⟩
        · rw [upd_ne _ _ hpw, upd_ne _ _ hpw, upd_ne _ _ hpw]
          exact v4 p (by omega)
      · rw [g 1 (by omega)] at hr
        rw [g (25 + r) (by omega), g (34 + r) (by omega), g (43 + r) (by omega)]
        exact v5 r hr
      · rw [g 2 (by omega)] at hq
        rw [g (52 + q) (by omega), g (58 + q) (by omega), g (64 + q) (by omega)]
        exact v6 q hq
    · show RW _ (upd (vM 2) 0 (nI (w 0 + 1)))
      refine ⟨by rw [upd_eq, g0], by rw [upd_ne _ _ (by omega), g 1 (by omega)]; exact r1, by rw [upd_ne _ _ (by omega), g 2 (by omega)]; exact r2, by rw [upd_ne _ _ (by omega), g 3 (by omega)]; exact r3, fun p hp => ?_, fun r hr => ?_, fun q hq => ?_, fun p hp hp2 => ?_⟩
      · rw [upd_ne _ _ (by omega), upd_ne _ _ (by omega), upd_ne _ _ (by omega), g (4 + p) (by omega), g (11 + p) (by omega), g (18 + p) (by omega)]; exact r4 p hp
      · rw [g 1 (by omega)] at hr
        rw [upd_ne _ _ (by omega), upd_ne _ _ (by omega), upd_ne _ _ (by omega), g (25 + r) (by omega), g (34 + r) (by omega), g (43 + r) (by omega)]; exact r5 r hr
      · rw [g 2 (by omega)] at hq
        rw [upd_ne _ _ (by omega), upd_ne _ _ (by omega), upd_ne _ _ (by omega), g (52 + q) (by omega), g (58 + q) (by omega), g (64 + q) (by omega)]; exact r6 q hq
      · rw [g (4 + p) (by omega), g (11 + p) (by omega), g (18 + p) (by omega)]
        exact r8 p hp (by omega)
    · unfold cost at hc ⊢
      rw [g0, g 1 (by omega), g 2 (by omega)]
      have : lions (updN w 0 (w 0 + 1)) (w 0 + 1) = lions w (w 0) := by
        show lions (updN w 0 (w 0 + 1)) (w 0) + _ = _
        rw [g (4 + w 0) (by omega), z1, if_pos rfl]
        exact lions_cong (fun p hp => g _ (by omega))
      omega
theorem iRoad {x : Nat → Nat} {n i f b : Nat} {w : Nat → Nat} {vt : Nat → Int32} {vR vD vM : Ob} (hV : TV n x) (hT : TR n x vt) (h : RLx x n i f w vR vD vM) (hc : cost w + 1 ≤ i) (hb : vR 0 4 = nI b) (hb' : vM 0 13 = nI b) (hb2 : b ≤ 200) : IFl vM (m_X1_readsRoad vR vD vt) (m_X6_roads vM) ∨ IOk x n i vM (m_X1_readsRoad vR vD vt) (m_X6_roads vM) := by
  obtain ⟨hP, hf, h7, h16, hW, hC, hR⟩ := h
  have h9w := hW.2.1
  have h6w := hW.2.2.1
  unfold m_X1_readsRoad m_X6_roads
  rw [c0, c1, hC.2.1, hR.1, hR.2.1, show (9 : Int32) = nI 9 from rfl, if_nI (by omega) (by omega)]
  by_cases h : w 1 = 9
  · left
    rw [if_pos (nI_le (by omega) (by omega)), if_pos h]
    exact ⟨vR, vD, vM, b, rfl, rfl, hb, hb', hb2, FM.refl _⟩
  rw [if_neg (nI_ge (by omega) (by omega)), if_neg h, show (25 : Int32) + nI (w 1) = nI (25 + w 1) from nI_add 25 _, show (34 : Int32) + nI (w 1) = nI (34 + w 1) from nI_add 34 _, show (43 : Int32) + nI (w 1) = nI (43 + w 1) from nI_add 43 _]
  rcases rPlace hV hT hP hW hC with hF | ⟨a, e1, ha, hN⟩
  · left
    obtain ⟨vR1, vM1, b1, q1, q2, q3, q4, q5, q6⟩ := hF.takes (k := 25 + w 1) (by omega) rfl
    rw [q1, q2, bnd_s, bnd_s, if_pos rfl, if_pos rfl]
    exact ⟨vR1, vD, vM1, b1, rfl, rfl, q3, q4, q5, q6⟩
  obtain ⟨vR1, vM1, p1, p2, p3, p4, hP1, p6, p7, p8, p9, p10, p11, p12, -⟩ := hN.takes (k := 25 + w 1) (by omega) rfl
  have hR1 : RW w (vM1 2) := by rw [p6]; exact hR.out _ (by omega) (fun r hr => by omega) (fun q hq => by omega)
  rw [p1, p2, bnd_s, bnd_s, if1, if1]
  dsimp only
  rcases rPlace hV hT hP1 hW hC with hF | ⟨c, e2, hcc, hN2⟩
  · left
    obtain ⟨vR2, vM2, b1, q1, q2, q3, q4, q5, q6⟩ := hF.takes (k := 34 + w 1) (by omega) rfl
    rw [q1, q2, bnd_s, bnd_s, if_pos rfl, if_pos rfl]
    exact ⟨vR2, vD, vM2, b1, rfl, rfl, q3, q4, q5, p9.trans q6⟩
  obtain ⟨vR2, vM2, s1, s2, s3, s4, hP2, s6, s7, s8, s9, s10, s11, s12, b2, sb1, sb2, sb3⟩ := hN2.takes (k := 34 + w 1) (by omega) rfl
  have hR2 : RW w (vM2 2) := by rw [s6]; exact hR1.out _ (by omega) (fun r hr => by omega) (fun q hq => by omega)
  have hw7 := hW.1
  have e25 : vM2 2 (25 + w 1) = nI a := by rw [s6, upd_ne _ _ (by omega), p6, upd_eq]
  have e34 : vM2 2 (34 + w 1) = nI c := by rw [s6, upd_eq]
  rw [s1, s2, bnd_s, bnd_s, if1, if1, grd_t (inb_nI (by omega) (by omega)), grd_t (inb_nI (by omega) (by omega)), cl (by omega), cl (by omega)]
  by_cases hac : c = a
  · left
    rw [if_pos (show vR2 0 6 = vR1 0 6 by rw [s3, p3, hac]), if_pos (show vM2 2 (25 + w 1) = vM2 2 (34 + w 1) by rw [e25, e34, hac])]
    exact ⟨vR2, vD, vM2, b2, rfl, rfl, sb2, sb3, sb1, p9.trans s9⟩
  rw [if_neg (show ¬ vR2 0 6 = vR1 0 6 by rw [s3, p3, nI_eq (by omega) (by omega)]; exact hac), if_neg (show ¬ vM2 2 (25 + w 1) = vM2 2 (34 + w 1) by rw [e25, e34, nI_eq (by omega) (by omega)]; exact fun z => hac z.symm)]
  rcases rNum hV hT hP2 (lo := 1) (hi := 9) (by omega) (by omega) with hF | ⟨v, e3, hv1, hv2, hN3⟩
  · left
    obtain ⟨vR3, vM3, b1, q1, q2, q3, q4, q5, q6⟩ := hF.takes (k := 43 + w 1) (by omega) rfl
    rw [show m_X1_readsNumber vR2 vt 1 (nI 9) = some (0, vR3) from q1, show m_X6_takes vM2 1 (nI 9) (nI (43 + w 1)) = some (0, vM3) from q2, bnd_s, bnd_s, if_pos rfl, if_pos rfl]
    exact ⟨vR3, vD, vM3, b1, rfl, rfl, q3, q4, q5, (p9.trans s9).trans q6⟩
  obtain ⟨vR3, vM3, u1, u2, u3, u4, hP3, u6, u7, u8, u9, u10, u11, u12, -⟩ := hN3.takes (k := 43 + w 1) (by omega) rfl
  have hR3 : RW w (vM3 2) := by rw [u6]; exact hR2.out _ (by omega) (fun r hr => by omega) (fun q hq => by omega)
  right
  rw [show m_X1_readsNumber vR2 vt 1 (nI 9) = some (1, vR3) from u1, show m_X6_takes vM2 1 (nI 9) (nI (43 + w 1)) = some (1, vM3) from u2, bnd_s, bnd_s, if1, if1]
  unfold m_X4_addRoad
  rw [hC.2.1, pw_isWithin, bnd_s, if_bi, nI_toInt (by omega), show (0 : Int32).toInt = 0 by decide, show (8 : Int32).toInt = 8 by decide, if_pos (by omega), grd_t (inb_nI (by omega) (by omega)), grd_t (inb_nI (by omega) (by omega)), grd_t (inb_nI (by omega) (by omega)), cl (by omega), bnd_s, if1, nI_1]
  have e1' : vM3 2 1 = nI (w 1) := hR3.2.1
  generalize hw' : updN (updN (updN (updN w (25 + w 1) a) (34 + w 1) c) (43 + w 1) v) 1 (w 1 + 1) = w'
  have g : ∀ j, j ≠ 1 → j ≠ 25 + w 1 → j ≠ 34 + w 1 → j ≠ 43 + w 1 → w' j = w j := fun j h1 h2 h3 h4 => by rw [← hw', updN_ne _ _ h1, updN_ne _ _ h4, updN_ne _ _ h3, updN_ne _ _ h2]
  have g1 : w' 1 = w 1 + 1 := by rw [← hw', updN_eq]
  have ga : w' (25 + w 1) = a := by rw [← hw', updN_ne _ _ (by omega), updN_ne _ _ (by omega), updN_ne _ _ (by omega), updN_eq]
  have gb : w' (34 + w 1) = c := by rw [← hw', updN_ne _ _ (by omega), updN_ne _ _ (by omega), updN_eq]
  have gc : w' (43 + w 1) = v := by rw [← hw', updN_ne _ _ (by omega), updN_eq]
  have x25 : vM3 2 (25 + w 1) = nI a := by rw [u6, upd_ne _ _ (by omega), e25]
  have x34 : vM3 2 (34 + w 1) = nI c := by rw [u6, upd_ne _ _ (by omega), e34]
  have x43 : vM3 2 (43 + w 1) = nI v := by rw [u6, upd_eq]
  have fr3 := (p9.trans s9).trans u9
  clear u6 s6 p6 hR1 hR2
  refine ⟨vR3, st (st (st (st vD 8 (w 1) (vR1 0 6)) 9 (w 1) (vR2 0 6)) 10 (w 1) (vR3 0 6)) 0 1 (nI (w 1 + 1)), st vM3 2 1 (nI (w 1 + 1)), w', e3, f, rfl, fun r V hr hV' => ?_, ⟨hP3, hf, by rw [u7, s7, p7, h7], (u8.trans (s8.trans p8)).trans h16, ?_, ?_, ?_⟩, fr3.trans (FM.st2 _ _ _), by omega, ?_⟩
  · show ((m_X6_ends (st vM3 2 1 (vM3 2 1 + 1))).bind _) = _
    rw [e1', nI_1]
    exact ends2 hr hV'
  · obtain ⟨v0, v1, v2, v3, v4, v5, v6, v7⟩ := hW
    have g00 := g 0 (by omega) (by omega) (by omega) (by omega)
    refine ⟨by omega, by omega, by rw [g 2 (by omega) (by omega) (by omega) (by omega)]; exact v2, by rw [g 3 (by omega) (by omega) (by omega) (by omega)]; exact v3, fun p hp => ?_, fun hp => ?_, fun r hr => ?_, fun q hq => ?_⟩
    · rw [g (4 + p) (by omega) (by omega) (by omega) (by omega), g (11 + p) (by omega) (by omega) (by omega) (by omega), g (18 + p) (by omega) (by omega) (by omega) (by omega)]
      exact v4 p (by omega)
    · rw [g 4 (by omega) (by omega) (by omega) (by omega), g 11 (by omega) (by omega) (by omega) (by omega)]
      exact v5 (by omega)
    · by_cases hrk : r = w 1
      · subst hrk
        rw [ga, gb, gc, g00]
        exact ⟨ha, hcc, fun z => hac z.symm, hv1, hv2⟩
      · rw [g (25 + r) (by omega) (by omega) (by omega) (by omega), g (34 + r) (by omega) (by omega) (by omega) (by omega), g (43 + r) (by omega) (by omega) (by omega) (by omega), g00]
        exact v6 r (by omega)
    · rw [g 2 (by omega) (by omega) (by omega) (by omega)] at hq
      rw [g (52 + q) (by omega) (by omega) (by omega) (by omega), g (58 + q) (by omega) (by omega) (by omega) (by omega), g (64 + q) (by omega) (by omega) (by omega) (by omega), g00]
      exact v7 q hq
  · obtain ⟨v0, v1, v2, v3, v4, v5, v6⟩ := hC
    have g00 := g 0 (by omega) (by omega) (by omega) (by omega)
    refine ⟨by rw [g00]; exact v0, by rw [g1]; rfl, by rw [g 2 (by omega) (by omega) (by omega) (by omega)]; exact v2, by rw [g 3 (by omega) (by omega) (by omega) (by omega)]; exact v3, fun p hp => ?_, fun r hr => ?_, fun q hq => ?_⟩
    · rw [g (4 + p) (by omega) (by omega) (by omega) (by omega), g (11 + p) (by omega) (by omega) (by omega) (by omega), g (18 + p) (by omega) (by omega) (by omega) (by omega)]
      exact v4 p (by omega)
    · show upd (vD 8) (w 1) (vR1 0 6) r = _ ∧ upd (vD 9) (w 1) (vR2 0 6) r = _ ∧ upd (vD 10) (w 1) (vR3 0 6) r = _
      by_cases hrk : r = w 1
      · subst hrk
        rw [ga, gb, gc, upd_eq, upd_eq, upd_eq]
        exact ⟨p3, s3, u3⟩
      · rw [g (25 + r) (by omega) (by omega) (by omega) (by omega), g (34 + r) (by omega) (by omega) (by omega) (by omega), g (43 + r) (by omega) (by omega) (by omega) (by omega), upd_ne _ _ hrk, upd_ne _ _ hrk, upd_ne _ _ hrk]
        exact v5 r (by omega)
    · rw [g 2 (by omega) (by omega) (by omega) (by omega)] at hq
      rw [g (52 + q) (by omega) (by omega) (by omega) (by omega), g (58 + q) (by omega) (by omega) (by omega) (by omega), g (64 + q) (by omega) (by omega) (by omega) (by omega)]
      exact v6 q hq
  · show RW w' (upd (vM3 2) 1 (nI (w 1 + 1)))
    obtain ⟨r0, r1, r2, r3, r4, r5, r6, r8⟩ := hR3
    have g00 := g 0 (by omega) (by omega) (by omega) (by omega)
    refine ⟨by rw [upd_ne _ _ (by omega), g00]; exact r0, by rw [upd_eq, g1], by rw [upd_ne _ _ (by omega), g 2 (by omega) (by omega) (by omega) (by omega)]; exact r2, by rw [upd_ne _ _ (by omega), g 3 (by omega) (by omega) (by omega) (by omega)]; exact r3, fun p hp => ?_, fun r hr => ?_, fun q hq => ?_, fun p hp hp2 => ?_⟩
    · rw [upd_ne _ _ (by omega), upd_ne _ _ (by omega), upd_ne _ _ (by omega), g (4 + p) (by omega) (by omega) (by omega) (by omega), g (11 + p) (by omega) (by omega) (by omega) (by omega), g (18 + p) (by omega) (by omega) (by omega) (by omega)]
      exact r4 p hp
    · rw [upd_ne _ _ (by omega), upd_ne _ _ (by omega), upd_ne _ _ (by omega)]
      by_cases hrk : r = w 1
      · subst hrk
        rw [ga, gb, gc]
        exact ⟨x25, x34, x43⟩
      · rw [g (25 + r) (by omega) (by omega) (by omega) (by omega), g (34 + r) (by omega) (by omega) (by omega) (by omega), g (43 + r) (by omega) (by omega) (by omega) (by omega)]
        exact r5 r (by omega)
    · rw [g 2 (by omega) (by omega) (by omega) (by omega)] at hq
      rw [upd_ne _ _ (by omega), upd_ne _ _ (by omega), upd_ne _ _ (by omega), g (52 + q) (by omega) (by omega) (by omega) (by omega), g (58 + q) (by omega) (by omega) (by omega) (by omega), g (64 + q) (by omega) (by omega) (by omega) (by omega)]
      exact r6 q hq
    · rw [g (4 + p) (by omega) (by omega) (by omega) (by omega), g (11 + p) (by omega) (by omega) (by omega) (by omega), g (18 + p) (by omega) (by omega) (by omega) (by omega)]
      exact r8 p hp (by omega)
  · have g00 := g 0 (by omega) (by omega) (by omega) (by omega)
    have : lions w' (w 0) = lions w (w 0) := lions_cong (fun p hp => g _ (by omega) (by omega) (by omega) (by omega))
    have a1 := s11 p12
    have a2 := u11 s12
    unfold cost at hc ⊢
    rw [g1, g00, g 2 (by omega) (by omega) (by omega) (by omega), this]
    omega
