theorem iLion {x : Nat → Nat} {n i f : Nat} {w : Nat → Nat} {vt : Nat → Int32} {vR vD vM : Ob} (hV : TV n x) (hT : TR n x vt) (h : RLx x n i f w vR vD vM) (hc : cost w + 1 ≤ i) : IFl vM (m_X1_readsLion vR vD vt) (m_X6_lion vM) ∨ IOk x n i vM (m_X1_readsLion vR vD vt) (m_X6_lion vM) := by
  obtain ⟨hP, hf, h7, h16, hW, hC, hR⟩ := h
  have h7w := hW.1
  have h9w := hW.2.1
  have h6w := hW.2.2.1
  unfold m_X1_readsLion m_X6_lion
  rw [c0, hR.1]
  rcases rPlace1 hV hT hP hW hC with ⟨vR1, vM1, b1, q1, q2, q3, q4, q5, q6⟩ | ⟨vR1, vM1, b1, q1, q2, q3, q4, q5, q6, q7⟩ | ⟨p, e1, hp, hp0, b1, hb1, vR1, vM1, d1, d2, p1, p2, p3, p4, p5, hP1, p6, p7, p8, p9, p10, p11, p12⟩
  · left
    rw [q1, q2, bnd_s, bnd_s, if_pos rfl, if_pos rfl]
    exact ⟨vR1, vD, vM1, b1, rfl, rfl, q3, q4, q5, q6⟩
  · left
    rw [q1, q3, bnd_s, bnd_s, if1, if_pos rfl, if_pos (show (1, vR1).2 0 6 = (0 : Int32) from q2)]
    exact ⟨vR1, vD, vM1, b1, rfl, rfl, q4, q5, q6, q7⟩
  rw [p1, p2, bnd_s, bnd_s, if1, if1, if_neg (show ¬ (1, vR1).2 0 6 = (0 : Int32) by show ¬ vR1 0 6 = 0; rw [p3]; exact nI_ne0 (by omega) (by omega))]
  have hR1 : RW w (vM1 2) := by rw [p6]; exact hR
  have e4 : (4 : Int32) + (1, vM1).2 0 15 = nI (4 + p) := by show (4 : Int32) + vM1 0 15 = _; rw [p4]; exact nI_add 4 p
  have hl : m_X4_lionAt vD ((1, vR1).2 0 6) = some (nI (w (4 + p))) := by show m_X4_lionAt vD (vR1 0 6) = _; rw [p3]; exact lionAt_y hW hC hp
  obtain ⟨hlv, -⟩ := hW.2.2.2.2.1 p hp
  rw [e4, hl, bnd_s, grd_t (inb_nI (by omega) (by omega)), cl (by omega)]
  have ev : (1, vM1).2 2 (4 + p) = nI (w (4 + p)) := (hR1.2.2.2.2.1 p (by omega)).1
  by_cases h9 : w (4 + p) = 9
  case neg =>
    left
    rw [if_neg (show ¬ nI (w (4 + p)) = (9 : Int32) by rw [show (9 : Int32) = nI 9 from rfl, nI_eq (by omega) (by omega)]; exact h9), if_neg (show ¬ (1, vM1).2 2 (4 + p) = (9 : Int32) by rw [ev, show (9 : Int32) = nI 9 from rfl, nI_eq (by omega) (by omega)]; exact h9)]
    exact ⟨vR1, vD, vM1, b1, rfl, rfl, d1, d2, hb1, p9⟩
  rw [if_pos (show nI (w (4 + p)) = (9 : Int32) by rw [h9]; rfl), if_pos (show (1, vM1).2 2 (4 + p) = (9 : Int32) by rw [ev, h9]; rfl)]
  dsimp only
  rcases rNum hV hT hP1 (lo := 0) (hi := 4) (by omega) (by omega) with hF | ⟨c, e2, -, hcc, hN2⟩
  · left
    obtain ⟨vR2, vM2, b1, q1, q2, q3, q4, q5, q6⟩ := hF.takes (k := 4 + p) (by omega) rfl
    rw [show m_X1_readsNumber vR1 vt 0 4 = some (0, vR2) from q1, show m_X6_takes vM1 0 4 (nI (4 + p)) = some (0, vM2) from q2, bnd_s, bnd_s, if_pos rfl, if_pos rfl]
    exact ⟨vR2, vD, vM2, b1, rfl, rfl, q3, q4, q5, p9.trans q6⟩
  obtain ⟨vR2, vM2, s1, s2, s3, s4, hP2, s6, s7, s8, s9, s10, s11, s12, -⟩ := hN2.takes (k := 4 + p) (by omega) rfl
  right
  rw [show m_X1_readsNumber vR1 vt 0 4 = some (1, vR2) from s1, show m_X6_takes vM1 0 4 (nI (4 + p)) = some (1, vM2) from s2, bnd_s, bnd_s, if1, if1]
  unfold m_X4_addLion
  rw [p3, hasPlace_y hW hC hp, bnd_s, if1, grd_t (inb_nI (by omega) (by omega)), cl (by omega), bnd_s, if1]
  generalize hw' : updN w (4 + p) c = w'
  have g : ∀ j, j ≠ 4 + p → w' j = w j := fun j hj => by rw [← hw', updN_ne _ _ hj]
  have ga : w' (4 + p) = c := by rw [← hw', updN_eq]
  have g00 := g 0 (by omega)
  have g01 := g 1 (by omega)
  have g02 := g 2 (by omega)
  have g03 := g 3 (by omega)
  refine ⟨vR2, _, vM2, w', e2, f, rfl, fun r V hr hV' => ends3 hr hV', ⟨hP2, hf, by rw [s7, p7, h7], (s8.trans p8).trans h16, ?_, ?_, ?_⟩, p9.trans s9, by omega, ?_⟩
  · obtain ⟨v0, v1, v2, v3, v4, v5, v6, v7⟩ := hW
    refine ⟨by omega, by omega, by omega, by omega, fun q hq => ?_, fun hq => ?_, fun r hr => ?_, fun q hq => ?_⟩
    · rw [g (11 + q) (by omega), g (18 + q) (by omega)]
      obtain ⟨y1, y2⟩ := v4 q (by omega)
      by_cases hqp : q = p
      · subst hqp
        rw [ga]
        exact ⟨Or.inl (by omega), y2⟩
      · rw [g (4 + q) (by omega)]
        exact ⟨y1, y2⟩
    · rw [g 4 (by omega), g 11 (by omega)]
      exact v5 (by omega)
    · rw [g (25 + r) (by omega), g (34 + r) (by omega), g (43 + r) (by omega), g00]
      exact v6 r (by omega)
    · rw [g (52 + q) (by omega), g (58 + q) (by omega), g (64 + q) (by omega), g00]
      exact v7 q (by omega)
  · obtain ⟨v0, v1, v2, v3, v4, v5, v6⟩ := hC
    refine ⟨by rw [g00]; exact v0, by rw [g01]; exact v1, by rw [g02]; exact v2, by rw [g03]; exact v3, fun q hq => ?_, fun r hr => ?_, fun q hq => ?_⟩
    · rw [g (11 + q) (by omega), g (18 + q) (by omega)]
      obtain ⟨y1, y2⟩ := v4 q (by omega)
      show upd (vD 5) p (vR2 0 6) q = _ ∧ _
      by_cases hqp : q = p
      · subst hqp
        rw [ga, upd_eq]
        exact ⟨s3, y2⟩
      · rw [g (4 + q) (by omega), upd_ne _ _ hqp]
        exact ⟨y1, y2⟩
    · rw [g (25 + r) (by omega), g (34 + r) (by omega), g (43 + r) (by omega)]
      exact v5 r (by omega)
    · rw [g (52 + q) (by omega), g (58 + q) (by omega), g (64 + q) (by omega)]
      exact v6 q (by omega)
  · rw [s6]
    obtain ⟨r0, r1, r2, r3, r4, r5, r6, r8⟩ := hR1
    refine ⟨by rw [upd_ne _ _ (by omega), g00]; exact r0, by rw [upd_ne _ _ (by omega), g01]; exact r1, by rw [upd_ne _ _ (by omega), g02]; exact r2, by rw [upd_ne _ _ (by omega), g03]; exact r3, fun q hq => ?_, fun r hr => ?_, fun q hq => ?_, fun q hq hq2 => ?_⟩
    · rw [upd_ne _ _ (show 11 + q ≠ 4 + p by omega), upd_ne _ _ (show 18 + q ≠ 4 + p by omega), g (11 + q) (by omega), g (18 + q) (by omega)]
      obtain ⟨y1, y2⟩ := r4 q hq
      by_cases hqp : q = p
      · subst hqp
        rw [ga, upd_eq]
        exact ⟨rfl, y2⟩
      · rw [g (4 + q) (by omega), upd_ne _ _ (by omega)]
        exact ⟨y1, y2⟩
    · rw [upd_ne _ _ (by omega), upd_ne _ _ (by omega), upd_ne _ _ (by omega), g (25 + r) (by omega), g (34 + r) (by omega), g (43 + r) (by omega)]
      exact r5 r (by omega)
    · rw [upd_ne _ _ (by omega), upd_ne _ _ (by omega), upd_ne _ _ (by omega), g (52 + q) (by omega), g (58 + q) (by omega), g (64 + q) (by omega)]
      exact r6 q (by omega)
    · rw [g (4 + q) (by omega), g (11 + q) (by omega), g (18 + q) (by omega)]
      exact r8 q hq (by omega)
  · have hli : lions w' (w 0) = lions w (w 0) + 1 := by rw [← hw', lions_up h9 (by omega), if_pos hp]
    have a1 := s11 p12
    unfold cost at hc ⊢
    rw [g00, g01, g02, hli]
    omega
theorem iGate {x : Nat → Nat} {n i f : Nat} {w : Nat → Nat} {vt : Nat → Int32} {vR vD vM : Ob} (hV : TV n x) (hT : TR n x vt) (h : RLx x n i f w vR vD vM) (hc : cost w + 1 ≤ i) : IFl vM (m_X1_readsGate vR vD vt) (m_X6_gate vM) ∨ IOk x n i vM (m_X1_readsGate vR vD vt) (m_X6_gate vM) := by
  obtain ⟨hP, hf, h7, h16, hW, hC, hR⟩ := h
  have h7w := hW.1
  have h9w := hW.2.1
  have h6w := hW.2.2.1
  unfold m_X1_readsGate m_X6_gate
  rw [c0, hR.1]
  rcases rPlace1 hV hT hP hW hC with ⟨vR1, vM1, b1, q1, q2, q3, q4, q5, q6⟩ | ⟨vR1, vM1, b1, q1, q2, q3, q4, q5, q6, q7⟩ | ⟨p, e1, hp, hp0, b1, hb1, vR1, vM1, d1, d2, p1, p2, p3, p4, p5, hP1, p6, p7, p8, p9, p10, p11, p12⟩
  · left
    rw [q1, q2, bnd_s, bnd_s, if_pos rfl, if_pos rfl]
    exact ⟨vR1, vD, vM1, b1, rfl, rfl, q3, q4, q5, q6⟩
  · left
    rw [q1, q3, bnd_s, bnd_s, if1, if_pos rfl, if_pos (show (1, vR1).2 0 6 = (0 : Int32) from q2)]
    exact ⟨vR1, vD, vM1, b1, rfl, rfl, q4, q5, q6, q7⟩
  rw [p1, p2, bnd_s, bnd_s, if1, if1, if_neg (show ¬ (1, vR1).2 0 6 = (0 : Int32) by show ¬ vR1 0 6 = 0; rw [p3]; exact nI_ne0 (by omega) (by omega))]
  have hR1 : RW w (vM1 2) := by rw [p6]; exact hR
  have e4 : (11 : Int32) + (1, vM1).2 0 15 = nI (11 + p) := by show (11 : Int32) + vM1 0 15 = _; rw [p4]; exact nI_add 11 p
  have e18 : (18 : Int32) + (1, vM1).2 0 15 = nI (18 + p) := by show (18 : Int32) + vM1 0 15 = _; rw [p4]; exact nI_add 18 p
  have hl : m_X4_gateFromAt vD ((1, vR1).2 0 6) = some (gI (w (11 + p))) := by show m_X4_gateFromAt vD (vR1 0 6) = _; rw [p3]; exact gateFrom_y hW hC hp
  obtain ⟨-, hgv, hg1, hg2⟩ := hW.2.2.2.2.1 p hp
  rw [e4, e18, hl, bnd_s, grd_t (inb_nI (by omega) (by omega)), cl (by omega)]
  have ev : (1, vM1).2 2 (11 + p) = gI (w (11 + p)) := (hR1.2.2.2.2.1 p (by omega)).2.1
  by_cases h9 : w (11 + p) = 24
  case neg =>
    left
    have hne : ¬ gI (w (11 + p)) = (-9 : Int32) := by rw [gI_ne (by omega)]; exact nI_n9 (by omega)
    rw [if_neg hne, if_neg (show ¬ (1, vM1).2 2 (11 + p) = (-9 : Int32) by rw [ev]; exact hne)]
    exact ⟨vR1, vD, vM1, b1, rfl, rfl, d1, d2, hb1, p9⟩
  have he : gI (w (11 + p)) = (-9 : Int32) := by rw [h9]; exact gI_24
  rw [if_pos he, if_pos (show (1, vM1).2 2 (11 + p) = (-9 : Int32) by rw [ev]; exact he)]
  dsimp only
  rcases rNum hV hT hP1 (lo := 0) (hi := 23) (by omega) (by omega) with hF | ⟨c, e2, -, hcc, hN2⟩
  · left
    obtain ⟨vR2, vM2, b1, q1, q2, q3, q4, q5, q6⟩ := hF.takes (k := 11 + p) (by omega) rfl
    rw [show m_X1_readsNumber vR1 vt 0 23 = some (0, vR2) from q1, show m_X6_takes vM1 0 23 (nI (11 + p)) = some (0, vM2) from q2, bnd_s, bnd_s, if_pos rfl, if_pos rfl]
    exact ⟨vR2, vD, vM2, b1, rfl, rfl, q3, q4, q5, p9.trans q6⟩
  obtain ⟨vR2, vM2, s1, s2, s3, s4, hP2, s6, s7, s8, s9, s10, s11, s12, -⟩ := hN2.takes (k := 11 + p) (by omega) rfl
  rw [show m_X1_readsNumber vR1 vt 0 23 = some (1, vR2) from s1, show m_X6_takes vM1 0 23 (nI (11 + p)) = some (1, vM2) from s2, bnd_s, bnd_s, if1, if1]
  dsimp only
  rcases rNum hV hT hP2 (lo := 1) (hi := 24) (by omega) (by omega) with hF | ⟨v, e3, hv1, hv2, hN3⟩
  · left
    obtain ⟨vR3, vM3, b1, q1, q2, q3, q4, q5, q6⟩ := hF.takes (k := 18 + p) (by omega) rfl
    rw [show m_X1_readsNumber vR2 vt 1 24 = some (0, vR3) from q1, show m_X6_takes vM2 1 24 (nI (18 + p)) = some (0, vM3) from q2, bnd_s, bnd_s, if_pos rfl, if_pos rfl]
    exact ⟨vR3, vD, vM3, b1, rfl, rfl, q3, q4, q5, (p9.trans s9).trans q6⟩
  obtain ⟨vR3, vM3, u1, u2, u3, u4, hP3, u6, u7, u8, u9, u10, u11, u12, -⟩ := hN3.takes (k := 18 + p) (by omega) rfl
  right
  rw [show m_X1_readsNumber vR2 vt 1 24 = some (1, vR3) from u1, show m_X6_takes vM2 1 24 (nI (18 + p)) = some (1, vM3) from u2, bnd_s, bnd_s, if1, if1]
  unfold m_X4_addGate
  rw [p3, hasPlace_y hW hC hp, bnd_s, if1, grd_t (inb_nI (by omega) (by omega)), grd_t (inb_nI (by omega) (by omega)), cl (by omega), bnd_s, if1]
  generalize hw' : updN (updN w (11 + p) c) (18 + p) v = w'
  have g : ∀ j, j ≠ 11 + p → j ≠ 18 + p → w' j = w j := fun j hj hj2 => by rw [← hw', updN_ne _ _ hj2, updN_ne _ _ hj]
  have ga : w' (11 + p) = c := by rw [← hw', updN_ne _ _ (by omega), updN_eq]
  have gb : w' (18 + p) = v := by rw [← hw', updN_eq]
  have g00 := g 0 (by omega) (by omega)
  have g01 := g 1 (by omega) (by omega)
  have g02 := g 2 (by omega) (by omega)
  have g03 := g 3 (by omega) (by omega)
  refine ⟨vR3, _, vM3, w', e3, f, rfl, fun r V hr hV' => ends3 hr hV', ⟨hP3, hf, by rw [u7, s7, p7, h7], (u8.trans (s8.trans p8)).trans h16, ?_, ?_, ?_⟩, (p9.trans s9).trans u9, by omega, ?_⟩
  · obtain ⟨v0, v1, v2, v3, v4, v5, v6, v7⟩ := hW
    refine ⟨by omega, by omega, by omega, by omega, fun q hq => ?_, fun hq => ?_, fun r hr => ?_, fun q hq => ?_⟩
    · rw [g (4 + q) (by omega) (by omega)]
      obtain ⟨y1, y2, y3⟩ := v4 q (by omega)
      by_cases hqp : q = p
      · subst hqp
        rw [ga, gb]
        exact ⟨y1, by omega, hv1, hv2⟩
      · rw [g (11 + q) (by omega) (by omega), g (18 + q) (by omega) (by omega)]
        exact ⟨y1, y2, y3⟩
    · rw [g 4 (by omega) (by omega), g 11 (by omega) (by omega)]
      exact v5 (by omega)
    · rw [g (25 + r) (by omega) (by omega), g (34 + r) (by omega) (by omega), g (43 + r) (by omega) (by omega), g00]
      exact v6 r (by omega)
    · rw [g (52 + q) (by omega) (by omega), g (58 + q) (by omega) (by omega), g (64 + q) (by omega) (by omega), g00]
      exact v7 q (by omega)
  · obtain ⟨v0, v1, v2, v3, v4, v5, v6⟩ := hC
    refine ⟨by rw [g00]; exact v0, by rw [g01]; exact v1, by rw [g02]; exact v2, by rw [g03]; exact v3, fun q hq => ?_, fun r hr => ?_, fun q hq => ?_⟩
    · rw [g (4 + q) (by omega) (by omega)]
      obtain ⟨y1, y2, y3⟩ := v4 q (by omega)
      show vD 5 q = _ ∧ upd (vD 6) p (vR2 0 6) q = _ ∧ upd (vD 7) p (vR3 0 6) q = _
      by_cases hqp : q = p
      · subst hqp
        rw [ga, gb, upd_eq, upd_eq]
        exact ⟨y1, s3.trans (gI_ne (by omega)).symm, u3⟩
      · rw [g (11 + q) (by omega) (by omega), g (18 + q) (by omega) (by omega), upd_ne _ _ hqp, upd_ne _ _ hqp]
        exact ⟨y1, y2, y3⟩
    · rw [g (25 + r) (by omega) (by omega), g (34 + r) (by omega) (by omega), g (43 + r) (by omega) (by omega)]
      exact v5 r (by omega)
    · rw [g (52 + q) (by omega) (by omega), g (58 + q) (by omega) (by omega), g (64 + q) (by omega) (by omega)]
      exact v6 q (by omega)
  · rw [u6, s6]
    obtain ⟨r0, r1, r2, r3, r4, r5, r6, r8⟩ := hR1
    have gu : ∀ j, j ≠ 11 + p → j ≠ 18 + p → upd (upd (vM1 2) (11 + p) (nI c)) (18 + p) (nI v) j = vM1 2 j := fun j h1 h2 => by rw [upd_ne _ _ h2, upd_ne _ _ h1]
    refine ⟨by rw [gu 0 (by omega) (by omega), g00]; exact r0, by rw [gu 1 (by omega) (by omega), g01]; exact r1, by rw [gu 2 (by omega) (by omega), g02]; exact r2, by rw [gu 3 (by omega) (by omega), g03]; exact r3, fun q hq => ?_, fun r hr => ?_, fun q hq => ?_, fun q hq hq2 => ?_⟩
    · rw [gu (4 + q) (by omega) (by omega), g (4 + q) (by omega) (by omega)]
      obtain ⟨y1, y2, y3⟩ := r4 q hq
      by_cases hqp : q = p
      · subst hqp
        rw [ga, gb, upd_eq, upd_ne _ _ (by omega), upd_eq]
        exact ⟨y1, (gI_ne (by omega)).symm, rfl⟩
      · rw [gu (11 + q) (by omega) (by omega), g (11 + q) (by omega) (by omega), gu (18 + q) (by omega) (by omega), g (18 + q) (by omega) (by omega)]
        exact ⟨y1, y2, y3⟩
    · rw [gu (25 + r) (by omega) (by omega), gu (34 + r) (by omega) (by omega), gu (43 + r) (by omega) (by omega), g (25 + r) (by omega) (by omega), g (34 + r) (by omega) (by omega), g (43 + r) (by omega) (by omega)]
      exact r5 r (by omega)
    · rw [gu (52 + q) (by omega) (by omega), gu (58 + q) (by omega) (by omega), gu (64 + q) (by omega) (by omega), g (52 + q) (by omega) (by omega), g (58 + q) (by omega) (by omega), g (64 + q) (by omega) (by omega)]
      exact r6 q (by omega)
    · rw [g (4 + q) (by omega) (by omega), g (11 + q) (by omega) (by omega), g (18 + q) (by omega) (by omega)]
      exact r8 q hq (by omega)
  · have hli : lions w' (w 0) = lions w (w 0) := lions_cong (fun q hq => g _ (by omega) (by omega))
    unfold cost at hc ⊢
    rw [g00, g01, g02, hli]
    omega
theorem iOff {x : Nat → Nat} {n i f b : Nat} {w : Nat → Nat} {vt : Nat → Int32} {vR vD vM : Ob} (hV : TV n x) (hT : TR n x vt) (h : RLx x n i f w vR vD vM) (hc : cost w + 1 ≤ i) (hb : vR 0 4 = nI b) (hb' : vM 0 13 = nI b) (hb2 : b ≤ 200) : IFl vM (m_X1_readsOff vR vD vt) (m_X6_off vM) ∨ IOk x n i vM (m_X1_readsOff vR vD vt) (m_X6_off vM) := by
  obtain ⟨hP, hf, h7, h16, hW, hC, hR⟩ := h
  have h7w := hW.1
  have h9w := hW.2.1
  have h6w := hW.2.2.1
  unfold m_X1_readsOff m_X6_off
  rw [h7, h16]
  by_cases hf1 : f = 1
  · left
    subst hf1
    rw [if_neg (by decide), if_neg (by decide)]
    exact ⟨vR, vD, vM, b, rfl, rfl, hb, hb', hb2, FM.refl _⟩
  have hf0 : f = 0 := by omega
  subst hf0
  rw [if_pos (show nI 0 = 0 from rfl), if_pos (show nI 0 = 0 from rfl)]
  have hP' : PL x n i vR (st vM 0 16 1) := hP
  rcases rNum hV hT hP' (lo := 0) (hi := 6) (by omega) (by omega) with hF | ⟨c, e2, -, hcc, hN2⟩
  · left
    obtain ⟨vR2, vM2, b1, q1, q2, q3, q4, q5, q6⟩ := hF.takes (k := 3) (by omega) rfl
    rw [show m_X1_readsNumber vR vt 0 6 = some (0, vR2) from q1, show m_X6_takes (st vM 0 16 1) 0 6 3 = some (0, vM2) from q2, bnd_s, bnd_s, if_pos rfl, if_pos rfl]
    exact ⟨vR2, vD, vM2, b1, rfl, rfl, q3, q4, q5, (FM.st0 vM 1 (by omega)).trans q6⟩
  obtain ⟨vR2, vM2, s1, s2, s3, s4, hP2, s6, s7, s8, s9, s10, s11, s12, -⟩ := hN2.takes (k := 3) (by omega) rfl
  right
  rw [show m_X1_readsNumber vR vt 0 6 = some (1, vR2) from s1, show m_X6_takes (st vM 0 16 1) 0 6 3 = some (1, vM2) from s2, bnd_s, bnd_s, if1, if1]
  generalize hw' : updN w 3 c = w'
  have g : ∀ j, j ≠ 3 → w' j = w j := fun j hj => by rw [← hw', updN_ne _ _ hj]
  have ga : w' 3 = c := by rw [← hw', updN_eq]
  have g00 := g 0 (by omega)
  have g01 := g 1 (by omega)
  have g02 := g 2 (by omega)
  refine ⟨_, _, vM2, w', e2, 1, rfl, fun r V hr hV' => ends3 hr hV', ⟨hP2, by omega, rfl, s8, ?_, ?_, ?_⟩, (FM.st0 vM 1 (by omega)).trans s9, by omega, ?_⟩
  · obtain ⟨v0, v1, v2, v3, v4, v5, v6, v7⟩ := hW
    refine ⟨by omega, by omega, by omega, by omega, fun q hq => ?_, fun hq => ?_, fun r hr => ?_, fun q hq => ?_⟩
    · rw [g (4 + q) (by omega), g (11 + q) (by omega), g (18 + q) (by omega)]
      exact v4 q (by omega)
    · rw [g 4 (by omega), g 11 (by omega)]
      exact v5 (by omega)
    · rw [g (25 + r) (by omega), g (34 + r) (by omega), g (43 + r) (by omega), g00]
      exact v6 r (by omega)
    · rw [g (52 + q) (by omega), g (58 + q) (by omega), g (64 + q) (by omega), g00]
      exact v7 q (by omega)
  · obtain ⟨v0, v1, v2, v3, v4, v5, v6⟩ := hC
    refine ⟨by rw [g00]; exact v0, by rw [g01]; exact v1, by rw [g02]; exact v2, by rw [ga]; exact s3, fun q hq => ?_, fun r hr => ?_, fun q hq => ?_⟩
    · rw [g (4 + q) (by omega), g (11 + q) (by omega), g (18 + q) (by omega)]
      exact v4 q (by omega)
    · rw [g (25 + r) (by omega), g (34 + r) (by omega), g (43 + r) (by omega)]
      exact v5 r (by omega)
    · rw [g (52 + q) (by omega), g (58 + q) (by omega), g (64 + q) (by omega)]
      exact v6 q (by omega)
  · rw [s6]
    obtain ⟨r0, r1, r2, r3, r4, r5, r6, r8⟩ := hR
    refine ⟨by rw [upd_ne _ _ (by omega), g00]; exact r0, by rw [upd_ne _ _ (by omega), g01]; exact r1, by rw [upd_ne _ _ (by omega), g02]; exact r2, by rw [upd_eq, ga], fun q hq => ?_, fun r hr => ?_, fun q hq => ?_, fun q hq hq2 => ?_⟩
    · rw [upd_ne _ _ (by omega), upd_ne _ _ (by omega), upd_ne _ _ (by omega), g (4 + q) (by omega), g (11 + q) (by omega), g (18 + q) (by omega)]
      exact r4 q hq
    · rw [upd_ne _ _ (by omega), upd_ne _ _ (by omega), upd_ne _ _ (by omega), g (25 + r) (by omega), g (34 + r) (by omega), g (43 + r) (by omega)]
      exact r5 r (by omega)
    · rw [upd_ne _ _ (by omega), upd_ne _ _ (by omega), upd_ne _ _ (by omega), g (52 + q) (by omega), g (58 + q) (by omega), g (64 + q) (by omega)]
      exact r6 q (by omega)
    · rw [g (4 + q) (by omega), g (11 + q) (by omega), g (18 + q) (by omega)]
      exact r8 q hq (by omega)
  · have hli : lions w' (w 0) = lions w (w 0) := lions_cong (fun q hq => g _ (by omega))
    unfold cost at hc ⊢
    rw [g00, g01, g02, hli]
    omega
