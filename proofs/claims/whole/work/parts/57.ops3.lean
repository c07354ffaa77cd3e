/-! PURE: places, roads, hosts, clocks, marks -/
theorem ls_3 (K : (Nat → Nat) → Ob → Prop) : LS3 (Inv K) := by
  intro j vX vR vY vC vW vD vS vI vJ vT vM uT hj hI y1 y2
  obtain ⟨hT, ⟨w, ⟨hV, hWC, hWM, hco⟩, hS, hi1, hi2, hK⟩, hC, ht⟩ := id hI
  have h7 := hV.1
  unfold m_X5_place m_X6_place
  rcases is_or y1 (w 0) (by omega) with ⟨k, hk, rfl⟩ | hb
  · rw [hasPlace_y hV hWC hk, isPlace_y hV hWM hk, bnd_s, bnd_s, if1, if1, pw_in, bnd_s, if_bi, Int32.toInt_toInt64, show (0 : Int64).toInt = 0 by decide, show (2 : Int64).toInt = 2 by decide]
    rcases is_or y2 3 (by omega) with ⟨q, hq, rfl⟩ | hb
    · have hq' : 0 ≤ (nI q).toInt ∧ (nI q).toInt ≤ 2 := by rw [nI_toInt (by omega)]; omega
      have e : ((4 : Int32) + (7 : Int32) * nI q) + nI k = nI (4 + 7 * q + k) := by rw [show (7 : Int32) = nI 7 from rfl, pk_mul, show (4 : Int32) = nI 4 from rfl, nI_add, nI_add]
      rw [if_pos hq', e, grd_t (inb_nI (by omega) (by omega)), cl (by omega), lionAt_y hV hWC hk, gateFrom_y hV hWC hk, gateHours_y hV hWC hk]
      obtain ⟨b1, b2, b3⟩ := hWM.2.2.2.2.1 k hk
      rcases (show q = 0 ∨ q = 1 ∨ q = 2 by omega) with rfl | rfl | rfl
      · rw [if_pos (show nI 0 = 0 from rfl)]
        exact ⟨_, _, rfl, rfl, by show nI (w (4 + k)) = vM 1 (4 + 7 * 0 + k); rw [show 4 + 7 * 0 + k = 4 + k by omega, b1], hI.same⟩
      · rw [if_neg (by decide), if_pos (show nI 1 = 1 from rfl)]
        exact ⟨_, _, rfl, rfl, by show gI (w (11 + k)) = vM 1 (4 + 7 * 1 + k); rw [show 4 + 7 * 1 + k = 11 + k by omega, b2], hI.same⟩
      · rw [if_neg (by decide), if_neg (by decide), if_pos (show nI 2 = 2 from rfl)]
        exact ⟨_, _, rfl, rfl, by show nI (w (18 + k)) = vM 1 (4 + 7 * 2 + k); rw [show 4 + 7 * 2 + k = 18 + k by omega, b3], hI.same⟩
    · have n0 : ¬ y2 = 0 := fun z => by subst z; revert hb; decide
      have n1 : ¬ y2 = 1 := fun z => by subst z; revert hb; decide
      have n2 : ¬ y2 = 2 := fun z => by subst z; revert hb; decide
      rw [if_neg n0, if_neg n1, if_neg n2, if_neg (by omega)]
      exact ⟨_, _, rfl, rfl, rfl, hI.same⟩
  · rw [hasPlace_n hV hWC hb, isPlace_n hV hWM hb, bnd_s, bnd_s, if0, if0]
    exact ⟨_, _, rfl, rfl, rfl, hI.same⟩
theorem ls_4 (K : (Nat → Nat) → Ob → Prop) : LS4 (Inv K) := by
  intro j vX vR vY vC vW vD vS vI vJ vT vM uT hj hI y1 y2
  obtain ⟨hT, ⟨w, ⟨hV, hWC, hWM, hco⟩, hS, hi1, hi2, hK⟩, hC, ht⟩ := id hI
  have h7 := hV.2.1
  unfold m_X5_road m_X6_road
  rcases is_or y1 (w 1) (by omega) with ⟨k, hk, rfl⟩ | hb
  · rw [hasRoad_y hV hWC hk, isRoad_y hV hWM hk, bnd_s, bnd_s, if1, if1, pw_in, bnd_s, if_bi, Int32.toInt_toInt64, show (0 : Int64).toInt = 0 by decide, show (2 : Int64).toInt = 2 by decide]
    rcases is_or y2 3 (by omega) with ⟨q, hq, rfl⟩ | hb
    · have hq' : 0 ≤ (nI q).toInt ∧ (nI q).toInt ≤ 2 := by rw [nI_toInt (by omega)]; omega
      have e : ((25 : Int32) + (9 : Int32) * nI q) + nI k = nI (25 + 9 * q + k) := by rw [show (9 : Int32) = nI 9 from rfl, pk_mul, show (25 : Int32) = nI 25 from rfl, nI_add, nI_add]
      rw [if_pos hq', e, grd_t (inb_nI (by omega) (by omega)), cl (by omega), roadStart_y hV hWC hk, roadEnd_y hV hWC hk, roadHours_y hV hWC hk]
      obtain ⟨b1, b2, b3⟩ := hWM.2.2.2.2.2.1 k hk
      rcases (show q = 0 ∨ q = 1 ∨ q = 2 by omega) with rfl | rfl | rfl
      · rw [if_pos (show nI 0 = 0 from rfl)]
        exact ⟨_, _, rfl, rfl, by show nI (w (25 + k)) = vM 1 (25 + 9 * 0 + k); rw [show 25 + 9 * 0 + k = 25 + k by omega, b1], hI.same⟩
      · rw [if_neg (by decide), if_pos (show nI 1 = 1 from rfl)]
        exact ⟨_, _, rfl, rfl, by show nI (w (34 + k)) = vM 1 (25 + 9 * 1 + k); rw [show 25 + 9 * 1 + k = 34 + k by omega, b2], hI.same⟩
      · rw [if_neg (by decide), if_neg (by decide), if_pos (show nI 2 = 2 from rfl)]
        exact ⟨_, _, rfl, rfl, by show nI (w (43 + k)) = vM 1 (25 + 9 * 2 + k); rw [show 25 + 9 * 2 + k = 43 + k by omega, b3], hI.same⟩
    · have n0 : ¬ y2 = 0 := fun z => by subst z; revert hb; decide
      have n1 : ¬ y2 = 1 := fun z => by subst z; revert hb; decide
      have n2 : ¬ y2 = 2 := fun z => by subst z; revert hb; decide
      rw [if_neg n0, if_neg n1, if_neg n2, if_neg (by omega)]
      exact ⟨_, _, rfl, rfl, rfl, hI.same⟩
  · rw [hasRoad_n hV hWC hb, isRoad_n hV hWM hb, bnd_s, bnd_s, if0, if0]
    exact ⟨_, _, rfl, rfl, rfl, hI.same⟩
theorem ls_5 (K : (Nat → Nat) → Ob → Prop) : LS5 (Inv K) := by
  intro j vX vR vY vC vW vD vS vI vJ vT vM uT hj hI y1 y2
  obtain ⟨hT, ⟨w, ⟨hV, hWC, hWM, hco⟩, hS, hi1, hi2, hK⟩, hC, ht⟩ := id hI
  have h7 := hV.2.2.1
  unfold m_X5_host m_X6_host
  rcases is_or y1 (w 2) (by omega) with ⟨k, hk, rfl⟩ | hb
  · rw [hasHost_y hV hWC hk, isHost_y hV hWM hk, bnd_s, bnd_s, if1, if1, pw_in, bnd_s, if_bi, Int32.toInt_toInt64, show (0 : Int64).toInt = 0 by decide, show (2 : Int64).toInt = 2 by decide]
    rcases is_or y2 3 (by omega) with ⟨q, hq, rfl⟩ | hb
    · have hq' : 0 ≤ (nI q).toInt ∧ (nI q).toInt ≤ 2 := by rw [nI_toInt (by omega)]; omega
      have e : ((52 : Int32) + (6 : Int32) * nI q) + nI k = nI (52 + 6 * q + k) := by rw [show (6 : Int32) = nI 6 from rfl, pk_mul, show (52 : Int32) = nI 52 from rfl, nI_add, nI_add]
      rw [if_pos hq', e, grd_t (inb_nI (by omega) (by omega)), cl (by omega), hostPlace_y hV hWC hk, hostGives_y hV hWC hk, hostAsks_y hV hWC hk]
      obtain ⟨b1, b2, b3⟩ := hWM.2.2.2.2.2.2 k hk
      rcases (show q = 0 ∨ q = 1 ∨ q = 2 by omega) with rfl | rfl | rfl
      · rw [if_pos (show nI 0 = 0 from rfl)]
        exact ⟨_, _, rfl, rfl, by show nI (w (52 + k)) = vM 1 (52 + 6 * 0 + k); rw [show 52 + 6 * 0 + k = 52 + k by omega, b1], hI.same⟩
      · rw [if_neg (by decide), if_pos (show nI 1 = 1 from rfl)]
        exact ⟨_, _, rfl, rfl, by show nI (w (58 + k)) = vM 1 (52 + 6 * 1 + k); rw [show 52 + 6 * 1 + k = 58 + k by omega, b2], hI.same⟩
      · rw [if_neg (by decide), if_neg (by decide), if_pos (show nI 2 = 2 from rfl)]
        exact ⟨_, _, rfl, rfl, by show nI (w (64 + k)) = vM 1 (52 + 6 * 2 + k); rw [show 52 + 6 * 2 + k = 64 + k by omega, b3], hI.same⟩
    · have n0 : ¬ y2 = 0 := fun z => by subst z; revert hb; decide
      have n1 : ¬ y2 = 1 := fun z => by subst z; revert hb; decide
      have n2 : ¬ y2 = 2 := fun z => by subst z; revert hb; decide
      rw [if_neg n0, if_neg n1, if_neg n2, if_neg (by omega)]
      exact ⟨_, _, rfl, rfl, rfl, hI.same⟩
  · rw [hasHost_n hV hWC hb, isHost_n hV hWM hb, bnd_s, bnd_s, if0, if0]
    exact ⟨_, _, rfl, rfl, rfl, hI.same⟩
/-- bits of a set -/
def pop (s : Nat) : Nat := s % 2 + s / 2 % 2 + s / 4 % 2 + s / 8 % 2 + s / 16 % 2
theorem pop_C : ∀ s, s < 32 → m_J6_bitCount_0f7a4 (nI s) = some (nI (pop s)) := by decide +kernel
theorem pop_M : ∀ s, s < 32 → m_X6_bits (nI s) = some (nI (pop s)) := by decide +kernel
theorem ls_21 (K : (Nat → Nat) → Ob → Prop) : LS21 (Inv K) := by
  intro j vX vR vY vC vW vD vS vI vJ vT vM uT hj hI y1 y2
  obtain ⟨hT, ⟨w, ⟨hV, hWC, hWM, hco⟩, ⟨z, hSV, hSC, hSM⟩, hi1, hi2, hK⟩, hC, ht⟩ := id hI
  obtain ⟨m0, m1, m2, m3, -⟩ := hSM
  simp only [Nat.zero_add] at m0 m1 m2 m3
  subst ht
  have h7 := hV.1
  have h6 := hV.2.2.1
  have h99 := hSV.1.2.1
  have fin : ∀ (t u : Int64), t = u → Inv K (j + 1) vX vR vY vC vW vD vS vI vJ t vM u := fun t u e => ⟨hI.same.1, hI.same.2.1, hI.same.2.2.1, e⟩
  unfold m_X5_mark m_X6_mark
  rw [pw_in, bnd_s, if_bi, Int32.toInt_toInt64, show (0 : Int64).toInt = 0 by decide, show (5 : Int64).toInt = 5 by decide]
  rcases is_or y2 (w 2) (by omega) with ⟨k, hk, rfl⟩ | hb
  · obtain ⟨p1, p2, p3⟩ := hV.2.2.2.2.2.2.2 k hk
    obtain ⟨b1, b2, b3⟩ := hWM.2.2.2.2.2.2 k hk
    have e52 : (52 : Int32) + nI k = nI (52 + k) := nI_add 52 k
    have e58 : (58 : Int32) + nI k = nI (58 + k) := nI_add 58 k
    have e64 : (64 : Int32) + nI k = nI (64 + k) := nI_add 64 k
    have hj62 : ∀ (x1 : Int32), (if nI (w (64 + k)) = (9 : Int32) then m_X6_mark_j62 vM vT x1 (nI k) (nI (w (58 + k))) 9 else grd (inb (nI (64 + k)) 70) (m_X6_mark_j62 vM vT x1 (nI k) (nI (w (58 + k))) (nI (w (64 + k))))) = m_X6_mark_j62 vM vT x1 (nI k) (nI (w (58 + k))) (nI (w (64 + k))) := by
      intro x1
      by_cases h9 : w (64 + k) = 9
      · rw [h9, if_pos (show nI 9 = 9 from rfl)]; rfl
      · rw [if_neg (by rw [show (9 : Int32) = nI 9 from rfl, nI_eq (by omega) (by omega)]; exact h9), grd_t (inb_nI (by omega) (by omega))]
    rw [hasHost_y hV hWC hk, isHost_y hV hWM hk, bnd_s, bnd_s, if1, if1, e58, e64, grd_t (inb_nI (by omega) (by omega)), grd_t (inb_nI (by omega) (by omega)), cl (by omega), cl (by omega), b2, b3, hj62]
    unfold m_X6_mark_j62
    rw [e52, grd_t (inb_nI (by omega) (by omega)), grd_t (inb_nI (by omega) (by omega)), cl (by omega), b1, c1, c2, m1, m2, pop_M _ hSV.1.2.2.1]
    have hmh : ∀ t : Int64, m_X5_markOfHost vX vW t (nI k) = some (nI (w (58 + k)), t + 1) := by
      intro t; unfold m_X5_markOfHost; rw [hostGives_y hV hWC hk, bnd_s]
    have hml : ∀ t : Int64, m_X5_markOfLending vX vW t (nI k) = some (nI (w (58 + k)) + nI (w (52 + k)), t + 10 + 1) := by
      intro t; unfold m_X5_markOfLending; rw [hmh, bnd_s, hostPlace_y hV hWC hk, bnd_s]
    have hmo : ∀ t : Int64, m_X5_markOfOffended vX vW t (nI k) = some (nI (w (58 + k)) - nI (w (64 + k)), t + 100 + 1) := by
      intro t; unfold m_X5_markOfOffended; rw [hmh, bnd_s, hostAsks_y hV hWC hk, bnd_s]
    have hmt : ∀ t : Int64, m_X5_markOfTwice vX vW t (nI k) = some ((nI (w (58 + k)) + nI (w (52 + k))) * 2, t + 1000 + 10 + 1) := by
      intro t; unfold m_X5_markOfTwice; rw [hml, bnd_s]
    have hmf : ∀ t : Int64, m_X5_markOfFalse vX vW vS t (nI k) = some (nI (w (58 + k)) - nI (w (64 + k)) + nI (pop (z 2)), t + 10000 + 100 + 1) := by
      intro t; unfold m_X5_markOfFalse; rw [hmo, bnd_s, hSC.2.2.1, pop_C _ hSV.1.2.2.1, bnd_s]
    have hmd : ∀ t : Int64, m_X5_markOfDwarf vX vW vS t (nI k) = some (nI (w (58 + k)) + rem (nI (z 1)) 24, t + 100000 + 1) := by
      intro t; unfold m_X5_markOfDwarf; rw [hmh, bnd_s, hSC.2.1]
    rw [hmh, hml, hmo, hmt, hmf, hmd]
    rcases is_or y1 6 (by omega) with ⟨q, hq, rfl⟩ | hb
    · rw [if_pos (show 0 ≤ (nI q).toInt ∧ (nI q).toInt ≤ 5 from by rw [nI_toInt (by omega)]; omega)]
      rcases (show q = 0 ∨ q = 1 ∨ q = 2 ∨ q = 3 ∨ q = 4 ∨ q = 5 by omega) with rfl | rfl | rfl | rfl | rfl | rfl
      · exact ⟨_, _, rfl, rfl, rfl, fin _ _ rfl⟩
      · exact ⟨_, _, rfl, rfl, rfl, fin _ _ (by show vT + 10 + 1 = vT + 1 + 10; rw [Int64.add_assoc, Int64.add_assoc]; rfl)⟩
      · exact ⟨_, _, rfl, rfl, rfl, fin _ _ (by show vT + 100 + 1 = vT + 1 + 100; rw [Int64.add_assoc, Int64.add_assoc]; rfl)⟩
      · refine ⟨_, _, rfl, rfl, ?_, fin _ _ ?_⟩
        · show (nI (w (58 + k)) + nI (w (52 + k))) * 2 = 2 * (nI (w (58 + k)) + nI (w (52 + k)))
          exact Int32.mul_comm _ _
        · show vT + 1000 + 10 + 1 = vT + 1 + 1010
          rw [Int64.add_assoc, Int64.add_assoc, Int64.add_assoc]
          exact congrArg (fun t => vT + t) (by decide)
      · exact ⟨_, _, rfl, rfl, rfl, fin _ _ (by show vT + 10000 + 100 + 1 = vT + 1 + 10100; rw [Int64.add_assoc, Int64.add_assoc, Int64.add_assoc]; rfl)⟩
      · exact ⟨_, _, rfl, rfl, rfl, fin _ _ (by show vT + 100000 + 1 = vT + 1 + 100000; rw [Int64.add_assoc, Int64.add_assoc]; rfl)⟩
    · have n0 : ¬ y1 = 0 := fun z => by subst z; revert hb; decide
      have n1 : ¬ y1 = 1 := fun z => by subst z; revert hb; decide
      have n2 : ¬ y1 = 2 := fun z => by subst z; revert hb; decide
      have n3 : ¬ y1 = 3 := fun z => by subst z; revert hb; decide
      have n4 : ¬ y1 = 4 := fun z => by subst z; revert hb; decide
      have n5 : ¬ y1 = 5 := fun z => by subst z; revert hb; decide
      rw [if_neg n0, if_neg n1, if_neg n2, if_neg n3, if_neg n4, if_neg n5, if_neg (show ¬ (0 ≤ y1.toInt ∧ y1.toInt ≤ 5) by omega)]
      exact ⟨_, _, rfl, rfl, rfl, fin _ _ rfl⟩
  · rw [hasHost_n hV hWC hb, isHost_n hV hWM hb, bnd_s, bnd_s, if0, if0]
    by_cases h5 : 0 ≤ y1.toInt ∧ y1.toInt ≤ 5
    · rw [if_pos h5]; exact ⟨_, _, rfl, rfl, rfl, fin _ _ rfl⟩
    · rw [if_neg h5]; exact ⟨_, _, rfl, rfl, rfl, fin _ _ rfl⟩
