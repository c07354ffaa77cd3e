theorem iHost {x : Nat → Nat} {n i f b : Nat} {w : Nat → Nat} {vt : Nat → Int32} {vR vD vM : Ob} (hV : TV n x) (hT : TR n x vt) (h : RLx x n i f w vR vD vM) (hc : cost w + 1 ≤ i) (hb : vR 0 4 = nI b) (hb' : vM 0 13 = nI b) (hb2 : b ≤ 200) : IFl vM (m_X1_readsHost vR vD vt) (m_X6_hosts vM) ∨ IOk x n i vM (m_X1_readsHost vR vD vt) (m_X6_hosts vM) := by
  obtain ⟨hP, hf, h7, h16, hW, hC, hR⟩ := h
  have h9w := hW.2.1
  have h6w := hW.2.2.1
  unfold m_X1_readsHost m_X6_hosts
  rw [c0, c2, hC.2.2.1, hR.1, hR.2.2.1, show (6 : Int32) = nI 6 from rfl, if_nI (by omega) (by omega)]
  by_cases h : w 2 = 6
  · left
    rw [if_pos (nI_le (by omega) (by omega)), if_pos h]
    exact ⟨vR, vD, vM, b, rfl, rfl, hb, hb', hb2, FM.refl _⟩
  rw [if_neg (nI_ge (by omega) (by omega)), if_neg h, show (52 : Int32) + nI (w 2) = nI (52 + w 2) from nI_add 52 _, show (58 : Int32) + nI (w 2) = nI (58 + w 2) from nI_add 58 _, show (64 : Int32) + nI (w 2) = nI (64 + w 2) from nI_add 64 _]
  rcases rPlace hV hT hP hW hC with hF | ⟨a, e1, ha, hN⟩
  · left
    obtain ⟨vR1, vM1, b1, q1, q2, q3, q4, q5, q6⟩ := hF.takes (k := 52 + w 2) (by omega) rfl
    rw [q1, q2, bnd_s, bnd_s, if_pos rfl, if_pos rfl]
    exact ⟨vR1, vD, vM1, b1, rfl, rfl, q3, q4, q5, q6⟩
  obtain ⟨vR1, vM1, p1, p2, p3, p4, hP1, p6, p7, p8, p9, p10, p11, p12, -⟩ := hN.takes (k := 52 + w 2) (by omega) rfl
  have hR1 : RW w (vM1 2) := by rw [p6]; exact hR.out _ (by omega) (fun r hr => by omega) (fun q hq => by omega)
  rw [p1, p2, bnd_s, bnd_s, if1, if1]
  dsimp only
  rcases rNum hV hT hP1 (lo := 0) (hi := 4) (by omega) (by omega) with hF | ⟨c, e2, -, hcc, hN2⟩
  · left
    obtain ⟨vR2, vM2, b1, q1, q2, q3, q4, q5, q6⟩ := hF.takes (k := 58 + w 2) (by omega) rfl
    rw [show m_X1_readsNumber vR1 vt 0 4 = some (0, vR2) from q1, show m_X6_takes vM1 0 4 (nI (58 + w 2)) = some (0, vM2) from q2, bnd_s, bnd_s, if_pos rfl, if_pos rfl]
    exact ⟨vR2, vD, vM2, b1, rfl, rfl, q3, q4, q5, p9.trans q6⟩
  obtain ⟨vR2, vM2, s1, s2, s3, s4, hP2, s6, s7, s8, s9, s10, s11, s12, -⟩ := hN2.takes (k := 58 + w 2) (by omega) rfl
  have hR2 : RW w (vM2 2) := by rw [s6]; exact hR1.out _ (by omega) (fun r hr => by omega) (fun q hq => by omega)
  rw [show m_X1_readsNumber vR1 vt 0 4 = some (1, vR2) from s1, show m_X6_takes vM1 0 4 (nI (58 + w 2)) = some (1, vM2) from s2, bnd_s, bnd_s, if1, if1]
  dsimp only
  rcases rNum hV hT hP2 (lo := 0) (hi := 9) (by omega) (by omega) with hF | ⟨v, e3, -, hv2, hN3⟩
  · left
    obtain ⟨vR3, vM3, b1, q1, q2, q3, q4, q5, q6⟩ := hF.takes (k := 64 + w 2) (by omega) rfl
    rw [show m_X1_readsNumber vR2 vt 0 9 = some (0, vR3) from q1, show m_X6_takes vM2 0 9 (nI (64 + w 2)) = some (0, vM3) from q2, bnd_s, bnd_s, if_pos rfl, if_pos rfl]
    exact ⟨vR3, vD, vM3, b1, rfl, rfl, q3, q4, q5, (p9.trans s9).trans q6⟩
  obtain ⟨vR3, vM3, u1, u2, u3, u4, hP3, u6, u7, u8, u9, u10, u11, u12, b3, ub1, ub2, ub3⟩ := hN3.takes (k := 64 + w 2) (by omega) rfl
  have hR3 : RW w (vM3 2) := by rw [u6]; exact hR2.out _ (by omega) (fun r hr => by omega) (fun q hq => by omega)
  rw [show m_X1_readsNumber vR2 vt 0 9 = some (1, vR3) from u1, show m_X6_takes vM2 0 9 (nI (64 + w 2)) = some (1, vM3) from u2, bnd_s, bnd_s, if1, if1]
  dsimp only
  have e64 : (Int32.toInt64 (vM3 0 15)).toInt = (v : Int) := by rw [u4, i64N (by omega)]
  have e32 : (vR3 0 6).toInt = (v : Int) := by rw [u3, nI_toInt (by omega)]
  rw [pw_isThing, bnd_s, if_bi, pw_in, bnd_s, if_bi, e64, e32, show (5 : Int64).toInt = 5 by decide, show (8 : Int64).toInt = 8 by decide]
  by_cases hbad : 5 ≤ v ∧ v ≤ 8
  · left
    rw [if_neg (show ¬ (0 ≤ (v : Int) ∧ (v : Int) < 5) by omega), if_pos (show 5 ≤ (v : Int) ∧ (v : Int) ≤ 8 by omega), if_neg (show ¬ vR3 0 6 = 9 by rw [u3, show (9 : Int32) = nI 9 from rfl, nI_eq (by omega) (by omega)]; omega)]
    exact ⟨vR3, vD, vM3, b3, rfl, rfl, ub2, ub3, ub1, (p9.trans s9).trans u9⟩
  right
  have hok : v < 5 ∨ v = 9 := by omega
  have hj : (if 0 ≤ (v : Int) ∧ (v : Int) < 5 then m_X1_readsHost_j73 vt vR3 vD (vR1 0 6) (vR2 0 6) else if vR3 0 6 = 9 then m_X1_readsHost_j73 vt vR3 vD (vR1 0 6) (vR2 0 6) else some (0, vR3, vD)) = some (1, vR3, st (st (st (st vD 11 (w 2) (vR1 0 6)) 12 (w 2) (vR2 0 6)) 13 (w 2) (vR3 0 6)) 0 2 (nI (w 2 + 1))) := by
    have hj2 : m_X1_readsHost_j73 vt vR3 vD (vR1 0 6) (vR2 0 6) = some (1, vR3, st (st (st (st vD 11 (w 2) (vR1 0 6)) 12 (w 2) (vR2 0 6)) 13 (w 2) (vR3 0 6)) 0 2 (nI (w 2 + 1))) := by
      unfold m_X1_readsHost_j73 m_X4_addHost
      rw [hC.2.2.1, pw_isWithin, bnd_s, if_bi, nI_toInt (by omega), show (0 : Int32).toInt = 0 by decide, show (5 : Int32).toInt = 5 by decide, if_pos (by omega), grd_t (inb_nI (by omega) (by omega)), grd_t (inb_nI (by omega) (by omega)), grd_t (inb_nI (by omega) (by omega)), cl (by omega), bnd_s, if1, nI_1]
    rcases hok with h | h
    · rw [if_pos (show 0 ≤ (v : Int) ∧ (v : Int) < 5 by omega), hj2]
    · rw [if_neg (show ¬ (0 ≤ (v : Int) ∧ (v : Int) < 5) by omega), if_pos (show vR3 0 6 = 9 by rw [u3, h]; rfl), hj2]
  rw [hj, if_neg (show ¬ (5 ≤ (v : Int) ∧ (v : Int) ≤ 8) by omega)]
  have e1' : vM3 2 2 = nI (w 2) := hR3.2.2.1
  have e52 : vM2 2 (52 + w 2) = nI a := by rw [s6, upd_ne _ _ (by omega), p6, upd_eq]
  have e58 : vM2 2 (58 + w 2) = nI c := by rw [s6, upd_eq]
  generalize hw' : updN (updN (updN (updN w (52 + w 2) a) (58 + w 2) c) (64 + w 2) v) 2 (w 2 + 1) = w'
  have g : ∀ j, j ≠ 2 → j ≠ 52 + w 2 → j ≠ 58 + w 2 → j ≠ 64 + w 2 → w' j = w j := fun j h1 h2 h3 h4 => by rw [← hw', updN_ne _ _ h1, updN_ne _ _ h4, updN_ne _ _ h3, updN_ne _ _ h2]
  have g1 : w' 2 = w 2 + 1 := by rw [← hw', updN_eq]
  have ga : w' (52 + w 2) = a := by rw [← hw', updN_ne _ _ (by omega), updN_ne _ _ (by omega), updN_ne _ _ (by omega), updN_eq]
  have gb : w' (58 + w 2) = c := by rw [← hw', updN_ne _ _ (by omega), updN_ne _ _ (by omega), updN_eq]
  have gc : w' (64 + w 2) = v := by rw [← hw', updN_ne _ _ (by omega), updN_eq]
  have x25 : vM3 2 (52 + w 2) = nI a := by rw [u6, upd_ne _ _ (by omega), e52]
  have x34 : vM3 2 (58 + w 2) = nI c := by rw [u6, upd_ne _ _ (by omega), e58]
  have x43 : vM3 2 (64 + w 2) = nI v := by rw [u6, upd_eq]
  have fr3 := (p9.trans s9).trans u9
  clear u6 s6 p6 hR1 hR2 hj
  have hw7 := hW.1
  refine ⟨vR3, _, st vM3 2 2 (nI (w 2 + 1)), w', e3, f, rfl, fun r V hr hV' => ?_, ⟨hP3, hf, by rw [u7, s7, p7, h7], (u8.trans (s8.trans p8)).trans h16, ?_, ?_, ?_⟩, fr3.trans (FM.st2 _ _ _), by omega, ?_⟩
  · show ((m_X6_ends (st vM3 2 2 (vM3 2 2 + 1))).bind _) = _
    rw [e1', nI_1]
    exact ends2 hr hV'
  · obtain ⟨v0, v1, v2, v3, v4, v5, v6, v7⟩ := hW
    have g00 := g 0 (by omega) (by omega) (by omega) (by omega)
    have g01 := g 1 (by omega) (by omega) (by omega) (by omega)
    refine ⟨by omega, by omega, by omega, by rw [g 3 (by omega) (by omega) (by omega) (by omega)]; exact v3, fun p hp => ?_, fun hp => ?_, fun r hr => ?_, fun q hq => ?_⟩
    · rw [g (4 + p) (by omega) (by omega) (by omega) (by omega), g (11 + p) (by omega) (by omega) (by omega) (by omega), g (18 + p) (by omega) (by omega) (by omega) (by omega)]
      exact v4 p (by omega)
    · rw [g 4 (by omega) (by omega) (by omega) (by omega), g 11 (by omega) (by omega) (by omega) (by omega)]
      exact v5 (by omega)
    · rw [g (25 + r) (by omega) (by omega) (by omega) (by omega), g (34 + r) (by omega) (by omega) (by omega) (by omega), g (43 + r) (by omega) (by omega) (by omega) (by omega), g00]
      exact v6 r (by omega)
    · by_cases hrk : q = w 2
      · subst hrk
        rw [ga, gb, gc, g00]
        exact ⟨ha, by omega, hok⟩
      · rw [g (52 + q) (by omega) (by omega) (by omega) (by omega), g (58 + q) (by omega) (by omega) (by omega) (by omega), g (64 + q) (by omega) (by omega) (by omega) (by omega), g00]
        exact v7 q (by omega)
  · obtain ⟨v0, v1, v2, v3, v4, v5, v6⟩ := hC
    have g00 := g 0 (by omega) (by omega) (by omega) (by omega)
    have g01 := g 1 (by omega) (by omega) (by omega) (by omega)
    refine ⟨by rw [g00]; exact v0, by rw [g01]; exact v1, by rw [g1]; rfl, by rw [g 3 (by omega) (by omega) (by omega) (by omega)]; exact v3, fun p hp => ?_, fun r hr => ?_, fun q hq => ?_⟩
    · rw [g (4 + p) (by omega) (by omega) (by omega) (by omega), g (11 + p) (by omega) (by omega) (by omega) (by omega), g (18 + p) (by omega) (by omega) (by omega) (by omega)]
      exact v4 p (by omega)
    · rw [g (25 + r) (by omega) (by omega) (by omega) (by omega), g (34 + r) (by omega) (by omega) (by omega) (by omega), g (43 + r) (by omega) (by omega) (by omega) (by omega)]
      exact v5 r (by omega)
    · show upd (vD 11) (w 2) (vR1 0 6) q = _ ∧ upd (vD 12) (w 2) (vR2 0 6) q = _ ∧ upd (vD 13) (w 2) (vR3 0 6) q = _
      by_cases hrk : q = w 2
      · subst hrk
        rw [ga, gb, gc, upd_eq, upd_eq, upd_eq]
        exact ⟨p3, s3, u3⟩
      · rw [g (52 + q) (by omega) (by omega) (by omega) (by omega), g (58 + q) (by omega) (by omega) (by omega) (by omega), g (64 + q) (by omega) (by omega) (by omega) (by omega), upd_ne _ _ hrk, upd_ne _ _ hrk, upd_ne _ _ hrk]
        exact v6 q (by omega)
  · show RW w' (upd (vM3 2) 2 (nI (w 2 + 1)))
    obtain ⟨r0, r1, r2, r3, r4, r5, r6, r8⟩ := hR3
    have g00 := g 0 (by omega) (by omega) (by omega) (by omega)
    have g01 := g 1 (by omega) (by omega) (by omega) (by omega)
    refine ⟨by rw [upd_ne _ _ (by omega), g00]; exact r0, by rw [upd_ne _ _ (by omega), g01]; exact r1, by rw [upd_eq, g1], by rw [upd_ne _ _ (by omega), g 3 (by omega) (by omega) (by omega) (by omega)]; exact r3, fun p hp => ?_, fun r hr => ?_, fun q hq => ?_, fun p hp hp2 => ?_⟩
    · rw [upd_ne _ _ (by omega), upd_ne _ _ (by omega), upd_ne _ _ (by omega), g (4 + p) (by omega) (by omega) (by omega) (by omega), g (11 + p) (by omega) (by omega) (by omega) (by omega), g (18 + p) (by omega) (by omega) (by omega) (by omega)]
      exact r4 p hp
    · rw [upd_ne _ _ (by omega), upd_ne _ _ (by omega), upd_ne _ _ (by omega), g (25 + r) (by omega) (by omega) (by omega) (by omega), g (34 + r) (by omega) (by omega) (by omega) (by omega), g (43 + r) (by omega) (by omega) (by omega) (by omega)]
      exact r5 r (by omega)
    · rw [upd_ne _ _ (by omega), upd_ne _ _ (by omega), upd_ne _ _ (by omega)]
      by_cases hrk : q = w 2
      · subst hrk
        rw [ga, gb, gc]
        exact ⟨x25, x34, x43⟩
      · rw [g (52 + q) (by omega) (by omega) (by omega) (by omega), g (58 + q) (by omega) (by omega) (by omega) (by omega), g (64 + q) (by omega) (by omega) (by omega) (by omega)]
        exact r6 q (by omega)
    · rw [g (4 + p) (by omega) (by omega) (by omega) (by omega), g (11 + p) (by omega) (by omega) (by omega) (by omega), g (18 + p) (by omega) (by omega) (by omega) (by omega)]
      exact r8 p hp (by omega)
  · have g00 := g 0 (by omega) (by omega) (by omega) (by omega)
    have g01 := g 1 (by omega) (by omega) (by omega) (by omega)
    have : lions w' (w 0) = lions w (w 0) := lions_cong (fun p hp => g _ (by omega) (by omega) (by omega) (by omega))
    have a1 := s11 p12
    have a2 := u11 s12
    unfold cost at hc ⊢
    rw [g1, g00, g01, this]
    omega
