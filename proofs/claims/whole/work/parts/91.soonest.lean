section
/-! PURE: soonest -/
theorem Inv.mk' {K : (Nat → Nat) → Ob → Prop} {j : Nat} {vX vR vY' vC vW vD vS vI vJ : Ob} {vT : Int64} {vM vM' : Ob} {uT : Int64} {w : Nat → Nat} (a : IT j vX vM) (b1 : IW j w vW vM) (b2 : IS w vS vM) (b3 : II w vI vM 0 0) (b4 : II w vJ vM 1 40) (c : IC vC vM) (d : vT = uT) (hf : FrM vM vM') (hK : K w vY') : Inv K (j + 1) vX vR vY' vC vW vD vS vI vJ vT vM' uT := by
  obtain ⟨f1, f3, f4, f5, f6, f8, f10, g6, g8, g10⟩ := hf
  exact ⟨a.up g6 f6, IM.up ⟨w, b1, b2, b3, b4, hK⟩ f1 f3 f4 f5, c.up g8 g10 f8 f10, d⟩
theorem FW.ok {w z : Nat → Nat} {t : Nat} {v : Ob} (ht : t < 5) (h7 : w 0 ≤ 7) (hm : MV w (z 0) (z 1) (z 2)) (h : FW w t (z 0) (z 1) (z 2) v) : WayOK w v := Or.inr ⟨t, z 0, z 1, z 2, ht, by have := hm.1; omega, hm.2.1, hm.2.2.1, h⟩
theorem both {w z : Nat → Nat} {vM v : Ob} {t : Nat} (hV : WV w) (hWM : WM w (vM 1)) (hSM : SM z (vM 3) 0) (hm : MV w (z 0) (z 1) (z 2)) (ht : t < 5) (hF : FW w t (z 0) (z 1) (z 2) v) :
    (∃ V', m_X6_fewest (WA vM) (nI t) = some (-9, V') ∧ FrM vM V' ∧ v 0 6 = -9 ∧ v 0 5 = nI 0 ∧ ∀ e, e ≤ 60 → ¬ CB w (z 1) 99 99 t e 0 (z 0) (z 2)) ∨ (∃ (m : Nat → Int32) (e n : Nat) (σ K P S : Nat → Nat), z 0 < w 0 ∧ e ≤ 60 ∧ n ≤ 100 ∧ v 0 6 = nI e ∧ v 0 5 = nI n ∧ (∀ i, i < n → v 5 i = nI (σ i)) ∧ Wy w (z 1) t e (z 0) (z 2) n σ K P S ∧ m_X6_fewest (WA vM) (nI t) = some (nI e, upR (WA vM) 18 m) ∧ (∀ k p s, k ≤ e → p < w 0 → s < 32 → (MB m k p s = true ↔ CB w (z 1) 99 99 t e k p s)) ∧ CB w (z 1) 99 99 t e 0 (z 0) (z 2)) := by
  have h7 := hV.1
  have hR := WA_RN hWM hSM hm h7
  by_cases h0 : w 0 = 0
  · left
    have hz2 : z 2 = 0 := by rw [← hm.2.2.2, gifts0 hV h0, Nat.and_zero]
    refine ⟨WA vM, ?_, WA_Fr vM, ?_⟩
    · unfold m_X6_fewest
      rw [c0, hR.1.1, h0, if_pos (show nI 0 = 0 from rfl)]
    · rcases hF.2 with ⟨a, b, c⟩ | ⟨e, n, σ, K, P, S, a1, a2, a3, a4, a5, a6, a7⟩
      · exact ⟨a, b, c⟩
      · have := wy_CB a6 (i := 0) (by omega)
        rw [a6.1.2.2, hz2] at this
        exact absurd this (no0 hV h0)
  · have hp : z 0 < w 0 := by have := hm.1; omega
    obtain ⟨m, hq⟩ := fewestM hV hR hp ht
    have hfr : FrM vM (upR (WA vM) 18 m) := (WA_Fr vM).tr (FrM.rw _ (by omega) _)
    rcases hF.2 with ⟨a, b, c⟩ | ⟨e, n, σ, K, P, S, a1, a2, a3, a4, a5, a6, a7⟩
    · rcases hq with ⟨q1, q2⟩ | ⟨e, q1, q2, q3, -⟩
      · exact Or.inl ⟨_, q1, hfr, a, b, c⟩
      · exact absurd q3 (c e q1)
    · have hcb : CB w (z 1) 99 99 t e 0 (z 0) (z 2) := by
        have := wy_CB a6 (i := 0) (by omega)
        rwa [a6.1.1, a6.1.2.1, a6.1.2.2] at this
      rcases hq with ⟨q1, q2⟩ | ⟨e', q1, q2, q3, q4, q5⟩
      · exact absurd hcb (q2 e a1)
      · have : e' = e := by
          rcases Nat.lt_trichotomy e' e with h | h | h
          · exact absurd q3 (a7 e' h)
          · exact h
          · exact absurd hcb (q4 e h)
        subst this
        exact Or.inr ⟨m, e', n, σ, K, P, S, hp, a1, a2, a3, a4, a5, a6, q2, q5, hcb⟩
theorem ls_11 : LS11 (Inv WayOK) := by
  intro j vX vR vY vC vW vD vS vI vJ vT vM uT hj hI y1 y2
  obtain ⟨hIT, ⟨w, hIW, hIS, hII, hIJ, hk⟩, hIC, hvT⟩ := id hI
  obtain ⟨hV, hWC, hWM, hcost⟩ := id hIW
  obtain ⟨z, hSV, hSC, hSM⟩ := id hIS
  have h7 := hV.1
  have hm := hSV.1
  unfold m_X5_soonest m_X6_soonest
  rw [pw_isThing, pr_isThing, bnd_s, bnd_s, if_bi, if_bi, pw_isWithin, bnd_s, if_bi, pw_in, bnd_s, if_bi, Int32.toInt_toInt64, show (-1 : Int32).toInt = -1 by decide, show (99 : Int32).toInt = 99 by decide, show (-1 : Int64).toInt = -1 by decide, show (99 : Int64).toInt = 99 by decide]
  rcases thing_or y1 with ⟨t, ht, rfl⟩ | hb
  · have ht' : 0 ≤ (nI t).toInt ∧ (nI t).toInt < 5 := by rw [nI_toInt (by omega)]; omega
    rw [if_pos ht', if_pos ht']
    by_cases hr : -1 ≤ y2.toInt ∧ y2.toInt ≤ 99
    · rw [if_pos hr, if_pos hr]
      obtain ⟨v, v1, v2⟩ := findC hV hWC hm hSC.1 hSC.2.1 hSC.2.2.1 (by omega) hk ht
      have hok := v2.ok ht h7 hm
      unfold m_X6_withAll
      rw [v1, bnd_s, bnd_s]
      have hy : y2 = -1 ∨ ∃ i, i < 100 ∧ y2 = nI i := by
        rcases is_or y2 100 (by omega) with ⟨i, h1, h2⟩ | h
        · exact Or.inr ⟨i, h1, h2⟩
        · left
          apply Int32.toInt_inj.mp
          rw [show (-1 : Int32).toInt = -1 by decide]
          omega
      rcases both hV hWM hSM hm ht v2 with ⟨V', q1, q2, q3, q4, -⟩ | ⟨m, e, n, σ, K, P, S, q1, q2, q3, q4, q5, q6, q7, q8, q9, -⟩
      · have q1' : m_X6_fewest (st (st vM 0 18 (-1)) 0 19 (-1)) (nI t) = _ := q1
        rw [q1', bnd_s]
        dsimp only
        rw [if_pos rfl]
        rcases hy with rfl | ⟨i, hi, rfl⟩
        · rw [if_pos rfl]
          exact ⟨_, _, rfl, rfl, q3, Inv.mk' hIT hIW hIS hII hIJ hIC hvT q2 hok⟩
        · rw [if_neg (by
            intro q
            have := congrArg Int32.toInt q
            rw [nI_toInt (by omega), show (-1 : Int32).toInt = -1 by decide] at this
            omega)]
          unfold m_X3_stepOfWay
          rw [if_neg (nI_pos (by omega)), q4, if_pos (nI_le (by omega) (by omega)), bnd_s]
          exact ⟨_, _, rfl, rfl, rfl, Inv.mk' hIT hIW hIS hII hIJ hIC hvT q2 hok⟩
      · have q8' : m_X6_fewest (st (st vM 0 18 (-1)) 0 19 (-1)) (nI t) = _ := q8
        rw [q8', bnd_s]
        dsimp only
        rw [if_neg (nI_n9 (by omega))]
        have hfr : FrM vM (upR (WA vM) 18 m) := (WA_Fr vM).tr (FrM.rw _ (by omega) _)
        rcases hy with rfl | ⟨i, hi, rfl⟩
        · rw [if_pos rfl, if_neg (by decide)]
          exact ⟨_, _, rfl, rfl, q4, Inv.mk' hIT hIW hIS hII hIJ hIC hvT hfr hok⟩
        · rw [if_neg (by
            intro q
            have := congrArg Int32.toInt q
            rw [nI_toInt (by omega), show (-1 : Int32).toInt = -1 by decide] at this
            omega), if_pos (nI_pos' (by omega))]
          obtain ⟨v', d1, d2⟩ := rowM hV ((WA_RN hWM hSM hm h7).up m) ht q2 (by rw [upR_eq]; exact q9) q7 q3
          obtain ⟨-, -, r3, r4, -, -, r7⟩ := d2
          unfold m_X3_stepOfWay
          rw [if_neg (nI_pos (by omega)), q5, d1, bnd_s, r3]
          by_cases hin : i < n
          · rw [if_neg (nI_ge hin (by omega)), if_neg (by rw [show (125 : Int32) = nI 125 from rfl]; exact nI_ge (by omega) (by omega)), grd_t (inb_nI (by omega) (by omega)), bnd_s, if_neg (nI_ge hin (by omega)), grd_t (inb_nI (by omega) (by omega)), cl (by omega)]
            exact ⟨_, _, rfl, rfl, by show v 5 i = v' 21 i; rw [q6 i hin, r4 i hin], Inv.mk' hIT hIW hIS hII hIJ hIC hvT (hfr.tr r7) hok⟩
          · rw [if_pos (nI_le (by omega) (by omega)), bnd_s, if_pos (nI_le (by omega) (by omega))]
            exact ⟨_, _, rfl, rfl, rfl, Inv.mk' hIT hIW hIS hII hIJ hIC hvT (hfr.tr r7) hok⟩
    · rw [if_neg hr, if_neg hr]
      exact ⟨_, _, rfl, rfl, rfl, hI.same⟩
  · rw [if_neg hb, if_neg hb]
    exact ⟨_, _, rfl, rfl, rfl, hI.same⟩
end
