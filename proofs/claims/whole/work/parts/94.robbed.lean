section
/-! PURE: robbed -/
def Hit (t : Nat) (σ K P S D : Nat → Nat) (j : Nat) : Prop := EB t σ S j = true ∧ D (P (j + 1)) ≤ K (j + 1)
theorem robC {w : Nat → Nat} {vW V : Ob} (hV : WV w) (hC : WC w vW) {g : Nat → Int32} {H t e p0 s0 n : Nat} {σ K P S D : Nat → Nat} (ht : t < 5) (h7t : V 0 7 = nI t) (he : e ≤ 60) (hp0 : p0 < 7) (hs0 : s0 < 32) (hW : Wy w H t e p0 s0 n σ K P S) (hn : n ≤ 100) (h5 : V 0 5 = nI n) (hst : ∀ i, i < n → V 5 i = nI (σ i)) (hD : rep (V 4) D) (hDM : ∀ p, D p ≤ 1000) : ∀ (f i : Nat) (E : Ob), i ≤ n → n - i < f → At V g (K i) (P i) (S i) E → Mv V E →
    ∃ E', Kp V E' ∧ ((∃ j, i ≤ j ∧ j < n ∧ Hit t σ K P S D j ∧ (∀ j', i ≤ j' → j' < j → ¬ Hit t σ K P S D j') ∧ m_X3_placeOfRobbery_L11 vW f E (nI i) = some (Sum.inl (nI (P (j + 1)), E'))) ∨ ((∀ j, i ≤ j → j < n → ¬ Hit t σ K P S D j) ∧ m_X3_placeOfRobbery_L11 vW f E (nI i) = some (Sum.inr E')))
  | 0, i, E, hi, hf, _, _ => by omega
  | f + 1, i, E, hi, hf, hE, hMv => by
    have h7 := hV.1
    have h9 := hV.2.1
    have h6 := hV.2.2.1
    obtain ⟨hPi, hSi⟩ := wy_S hV hW hp0 hs0 hi
    have hdef : m_X3_placeOfRobbery_L11 vW (f + 1) E (nI i) = m_X3_placeOfRobbery_L11B vW (m_X3_placeOfRobbery_L11 vW f) E (nI i) := rfl
    rw [hdef]
    unfold m_X3_placeOfRobbery_L11B m_X3_placeOfRobbery_j83
    rw [hMv.2 5 (by omega) (by omega) (by omega), h5]
    by_cases hlt : i < n
    · have hL := hW.2.1 i hlt
      have hK : K i ≤ 60 := by have := CB_le (wy_CB hW hi); omega
      have hK' : K (i + 1) ≤ 60 := by have := CB_le (wy_CB hW (i := i + 1) (by omega)); omega
      have hin := Sp_in hV hSi hL.1
      have hσ : σ i < 32 := Sp_lt32 hV hL.1
      obtain ⟨E2, t1, t2, t3⟩ := takeC hV hC hE hK hPi hSi hL.1
      have hMv2 : Mv V E2 := ⟨fun r hr => (t3.1 r hr).trans (hMv.1 r hr), fun c c1 c2 c3 => (t3.2 c c1 c2 c3).trans (hMv.2 c c1 c2 c3)⟩
      rw [if_neg (nI_ge hlt (by omega)), if_neg (by rw [show (125 : Int32) = nI 125 from rfl]; exact nI_ge (by omega) (by omega)), hE.2.2.2.1, hE.2.2.2.2, h7t, hasThingC hSi (Or.inl ht), bnd_s, grd_t (inb_nI (by omega) (by omega)), cl (by omega), hMv.1 5 (by omega), hst i hlt, t1, bnd_s, grd_t (inb_nI (by omega) (by omega)), hMv2.1 5 (by omega), hst i hlt, isWalk_e (by omega), bnd_s, nI_1, if_bi, if_bi]
      have skip : ¬ Hit t σ K P S D i → ∃ E', Kp V E' ∧ ((∃ j, i ≤ j ∧ j < n ∧ Hit t σ K P S D j ∧ (∀ j', i ≤ j' → j' < j → ¬ Hit t σ K P S D j') ∧ m_X3_placeOfRobbery_L11 vW f E2 (nI (i + 1)) = some (Sum.inl (nI (P (j + 1)), E'))) ∨ ((∀ j, i ≤ j → j < n → ¬ Hit t σ K P S D j) ∧ m_X3_placeOfRobbery_L11 vW f E2 (nI (i + 1)) = some (Sum.inr E'))) := by
        intro hno
        obtain ⟨E', q1, q2⟩ := robC hV hC ht h7t he hp0 hs0 hW hn h5 hst hD hDM f (i + 1) E2 (by omega) (by omega) t2 hMv2
        refine ⟨E', q1, ?_⟩
        rcases q2 with ⟨j, x1, x2, x3, x4, x5⟩ | ⟨x1, x2⟩
        · refine Or.inl ⟨j, by omega, x2, x3, fun j' y1 y2 => ?_, x5⟩
          by_cases h : j' = i
          · subst h; exact hno
          · exact x4 j' (by omega) y2
        · refine Or.inr ⟨fun j y1 y2 => ?_, x2⟩
          by_cases h : j = i
          · subst h; exact hno
          · exact x1 j (by omega) y2
      by_cases hwk : 1 ≤ σ i ∧ σ i < 11
      · rw [if_pos hwk]
        by_cases hb : (S i).testBit t = true
        · rw [if_pos (Or.inr hb)]
          unfold m_X3_brotherHoursTo
          rw [t2.2.1, hasPlace_y hV hC hin.2.1, bnd_s, if1, grd_t (inb_nI (by omega) (by omega)), cl (by omega), bnd_s, hMv2.1 4 (by omega), hD _ (by omega), t2.2.2.1]
          have hDp := hDM (P (i + 1))
          by_cases hd : D (P (i + 1)) ≤ K (i + 1)
          · rw [if_neg (nI_nlt hd (by omega))]
            exact ⟨E2, Kp.mv hMv2, Or.inl ⟨i, Nat.le_refl _, hlt, ⟨by unfold EB; rw [decide_eq_true_eq]; exact ⟨hwk.1, hwk.2, hb⟩, hd⟩, fun j' y1 y2 => by omega, rfl⟩⟩
          · rw [if_pos (nI_lt (by omega) (by omega))]
            exact skip (fun q => hd q.2)
        · rw [if_neg (show ¬ (t = 9 ∨ (S i).testBit t = true) from fun q => q.elim (fun y => by omega) hb)]
          refine skip (fun q => hb ?_)
          have := q.1
          unfold EB at this
          rw [decide_eq_true_eq] at this
          exact this.2.2
      · rw [if_neg hwk]
        refine skip (fun q => hwk ?_)
        have := q.1
        unfold EB at this
        rw [decide_eq_true_eq] at this
        exact ⟨this.1, this.2.1⟩
    · rw [if_pos (nI_le (by omega) (by omega))]
      exact ⟨E, Kp.mv hMv, Or.inr ⟨fun j x1 x2 => by omega, rfl⟩⟩
theorem robM {w : Nat → Nat} (hV : WV w) {H t e p0 s0 n : Nat} {σ K P S D : Nat → Nat} {v : Ob} (he : e ≤ 60) (hp0 : p0 < 7) (hs0 : s0 < 32) (hW : Wy w H t e p0 s0 n σ K P S) (hn : n ≤ 100) (h24 : v 0 24 = nI (cnt (EB t σ S) n)) (hent : ∀ j, j < n → EB t σ S j = true → v 23 (cnt (EB t σ S) j) = nI (P (j + 1)) ∧ v 24 (cnt (EB t σ S) j) = nI (K (j + 1))) (hD : rep (v 26) D) (hDM : ∀ p, D p ≤ 9999) : ∀ (d i f : Nat), n - i = d → i ≤ n → d < f →
    (∃ j, i ≤ j ∧ j < n ∧ Hit t σ K P S D j ∧ (∀ j', i ≤ j' → j' < j → ¬ Hit t σ K P S D j') ∧ m_X6_robbed_L50 f v (nI (cnt (EB t σ S) i)) = some (Sum.inl (nI (P (j + 1)), v))) ∨ ((∀ j, i ≤ j → j < n → ¬ Hit t σ K P S D j) ∧ m_X6_robbed_L50 f v (nI (cnt (EB t σ S) i)) = some (Sum.inr v))
  | d, i, 0, hd, hi, hf => by omega
  | 0, i, f + 1, hd, hi, hf => by
    have hdef : m_X6_robbed_L50 (f + 1) v (nI (cnt (EB t σ S) i)) = m_X6_robbed_L50B (m_X6_robbed_L50 f) v (nI (cnt (EB t σ S) i)) := rfl
    have : i = n := by omega
    subst this
    have hc := cnt_le (EB t σ S) i
    rw [hdef]
    unfold m_X6_robbed_L50B
    rw [h24, if_pos (nI_le (Nat.le_refl _) (by omega))]
    exact Or.inr ⟨fun j x1 x2 => by omega, rfl⟩
  | d + 1, i, f + 1, hd, hi, hf => by
    have hlt : i < n := by omega
    have h7 := hV.1
    have skip : ∀ r : Option ((Int32 × Ob) ⊕ Ob), ¬ Hit t σ K P S D i → ((∃ j, i + 1 ≤ j ∧ j < n ∧ Hit t σ K P S D j ∧ (∀ j', i + 1 ≤ j' → j' < j → ¬ Hit t σ K P S D j') ∧ r = some (Sum.inl (nI (P (j + 1)), v))) ∨ ((∀ j, i + 1 ≤ j → j < n → ¬ Hit t σ K P S D j) ∧ r = some (Sum.inr v))) → ((∃ j, i ≤ j ∧ j < n ∧ Hit t σ K P S D j ∧ (∀ j', i ≤ j' → j' < j → ¬ Hit t σ K P S D j') ∧ r = some (Sum.inl (nI (P (j + 1)), v))) ∨ ((∀ j, i ≤ j → j < n → ¬ Hit t σ K P S D j) ∧ r = some (Sum.inr v))) := by
      intro r hno q2
      rcases q2 with ⟨j, x1, x2, x3, x4, x5⟩ | ⟨x1, x2⟩
      · refine Or.inl ⟨j, by omega, x2, x3, fun j' y1 y2 => ?_, x5⟩
        by_cases h : j' = i
        · subst h; exact hno
        · exact x4 j' (by omega) y2
      · refine Or.inr ⟨fun j y1 y2 => ?_, x2⟩
        by_cases h : j = i
        · subst h; exact hno
        · exact x1 j (by omega) y2
    by_cases hB : EB t σ S i = true
    · have hdef : m_X6_robbed_L50 (f + 1) v (nI (cnt (EB t σ S) i)) = m_X6_robbed_L50B (m_X6_robbed_L50 f) v (nI (cnt (EB t σ S) i)) := rfl
      have hc := cnt_lt (B := EB t σ S) hlt hB
      have hcn := cnt_le (EB t σ S) n
      obtain ⟨x1, x2⟩ := hent i hlt hB
      have hP' := (wy_S hV hW hp0 hs0 (i := i + 1) (by omega)).1
      have hK' : K (i + 1) ≤ 60 := by have := CB_le (wy_CB hW (i := i + 1) (by omega)); omega
      have hDp := hDM (P (i + 1))
      rw [hdef]
      unfold m_X6_robbed_L50B
      rw [h24, if_neg (nI_ge hc (by omega)), grd_t (inb_nI (by omega) (by omega)), cl (by omega), x1, x2, grd_t (inb_nI (by omega) (by omega)), grd_t (inb_nI (by omega) (by omega)), cl (by omega), hD _ hP', grd_t (inb_nI (by omega) (by omega)), nI_1]
      by_cases hd' : D (P (i + 1)) ≤ K (i + 1)
      · rw [if_neg (nI_nlt hd' (by omega))]
        exact Or.inl ⟨i, Nat.le_refl _, hlt, ⟨hB, hd'⟩, fun j' y1 y2 => by omega, rfl⟩
      · rw [if_pos (nI_lt (by omega) (by omega))]
        refine skip _ (fun q => hd' q.2) ?_
        have := robM hV he hp0 hs0 hW hn h24 hent hD hDM d (i + 1) f (by omega) (by omega) (by omega)
        rw [cnt_s, if_pos hB] at this
        exact this
    · refine skip _ (fun q => hB q.1) ?_
      have := robM hV he hp0 hs0 hW hn h24 hent hD hDM d (i + 1) (f + 1) (by omega) (by omega) (by omega)
      rw [cnt_s, if_neg hB] at this
      exact this
theorem ls_14 : LS14 (Inv WayOK) := by
  intro j vX vR vY vC vW vD vS vI vJ vT vM uT hj hI y1 y2
  obtain ⟨hIT, ⟨w, hIW, hIS, hII, hIJ, hk⟩, hIC, hvT⟩ := id hI
  obtain ⟨hV, hWC, hWM, hcost⟩ := id hIW
  obtain ⟨z, hSV, hSC, hSM⟩ := id hIS
  have h7 := hV.1
  have hm := hSV.1
  have hp7 : z 0 < 7 := by have := hm.1; omega
  unfold m_X5_robbed m_X6_robbed
  rw [pw_isThing, pr_isThing, bnd_s, bnd_s, if_bi, if_bi]
  rcases thing_or y1 with ⟨t, ht, rfl⟩ | hb
  · have ht' : 0 ≤ (nI t).toInt ∧ (nI t).toInt < 5 := by rw [nI_toInt (by omega)]; omega
    rw [if_pos ht', if_pos ht']
    rcases is_or y2 (w 0) (by omega) with ⟨fr, hfr, rfl⟩ | hb
    · rw [hasPlace_y hV hWC hfr, bnd_s, if1, isPlace_y hV hWM hfr, bnd_s, if1]
      obtain ⟨v, v1, v2⟩ := findC hV hWC hm hSC.1 hSC.2.1 hSC.2.2.1 (by omega) hk ht
      have hok := v2.ok ht h7 hm
      obtain ⟨fC, DC, c1', c2', c3', c4'⟩ := broC hV hWC v hfr
      unfold m_X6_withAll m_X3_placeOfRobbery m_X3_standAtStart
      rw [v1, bnd_s, bnd_s, c1', bnd_s, bnd_s]
      have hkp : Kp v (upR v 4 fC) := Kp.up v (by omega) (by omega) fC
      generalize hV1 : upR v 4 fC = V1 at hkp
      have u4 : V1 4 = fC := by rw [← hV1, upR_eq]
      have hmv : Mv V1 (st (st (st V1 0 11 (V1 0 8)) 0 12 0) 0 13 (V1 0 10)) := ⟨fun r hr => by rw [st_row_ne _ _ _ hr, st_row_ne _ _ _ hr, st_row_ne _ _ _ hr], fun c d1 d2 d3 => by rw [st_row_eq, upd_ne _ _ d3, st_row_eq, upd_ne _ _ d2, st_row_eq, upd_ne _ _ d1]⟩
      have hWA : st (st vM 0 18 (-1)) 0 19 (-1) = WA vM := rfl
      rw [hWA]
      rcases both hV hWM hSM hm ht v2 with ⟨V', q1, q2, q3, q4, -⟩ | ⟨m, e, n, σ, K, P, S, q1, q2, q3, q4, q5, q6, q7, q8, q9, -⟩
      · rw [q1, bnd_s]
        dsimp only
        rw [if_pos rfl]
        have hL : m_X3_placeOfRobbery_L11 vW FU (st (st (st V1 0 11 (V1 0 8)) 0 12 0) 0 13 (V1 0 10)) 0 = some (Sum.inr (st (st (st V1 0 11 (V1 0 8)) 0 12 0) 0 13 (V1 0 10))) := by
          show m_X3_placeOfRobbery_L11B vW (m_X3_placeOfRobbery_L11 vW 999) (st (st (st V1 0 11 (V1 0 8)) 0 12 0) 0 13 (V1 0 10)) 0 = _
          unfold m_X3_placeOfRobbery_L11B
          rw [hmv.2 5 (by omega) (by omega) (by omega), hkp.2 5 (by omega), q4, if_pos (show nI 0 ≤ 0 by decide)]
        rw [hL, bnd_s, sm_r, bnd_s]
        exact ⟨_, _, rfl, rfl, rfl, Inv.mk' hIT hIW hIS hII hIJ hIC hvT q2 (hok.kp (hkp.tr (Kp.mv hmv)))⟩
      · rw [q8, bnd_s]
        dsimp only
        rw [if_neg (nI_n9 (by omega))]
        have hfr1 : FrM vM (upR (WA vM) 18 m) := (WA_Fr vM).tr (FrM.rw _ (by omega) _)
        obtain ⟨v', d1, d2⟩ := rowM hV ((WA_RN hWM hSM hm h7).up m) ht q2 (by rw [upR_eq]; exact q9) q7 q3
        obtain ⟨r1, -, r3, r4, r5, r6, r7⟩ := d2
        rw [d1, bnd_s]
        obtain ⟨fM, DM, e1, e2, e3, e4⟩ := farM hV v' r1.1 hfr
        rw [e1, bnd_s]
        have hfr2 : FrM vM (upR v' 26 fM) := (hfr1.tr r7).tr (FrM.rw _ (by omega) _)
        obtain ⟨⟨w7, w8, w9, w10⟩, -⟩ := id v2
        have hrC := robC (V := V1) (g := V1 3) (w := w) (vW := vW) hV hWC ht (by rw [hkp.2 7 (by omega)]; exact w7) q2 hp7 hm.2.2.1 q7 q3 (by rw [hkp.2 5 (by omega)]; exact q5) (fun i hi => by rw [hkp.1]; exact q6 i hi) (by rw [u4]; exact c2') (fun p => (c3' p).1) FU 0 (st (st (st V1 0 11 (V1 0 8)) 0 12 0) 0 13 (V1 0 10)) (by omega) (by unfold FU; omega) (by
          refine ⟨?_, ?_, ?_, ?_, ?_⟩
          · rw [st_row_ne _ _ _ (by omega), st_row_ne _ _ _ (by omega), st_row_ne _ _ _ (by omega)]
          · rw [q7.1.2.1, ← w8, ← hkp.2 8 (by omega)]; simp [st_get]
          · rw [q7.1.1]; simp [st_get, nI_0]
          · rw [q7.1.2.2, ← w10, ← hkp.2 10 (by omega)]; simp [st_get]
          · simp [st_get]) hmv
        obtain ⟨E', k1, k2⟩ := hrC
        have hrM := robM (v := upR v' 26 fM) hV q2 hp7 hm.2.2.1 q7 q3 (by rw [upR_ne _ _ (by omega)]; exact r5) (fun j hj hb => by rw [upR_ne _ _ (show 23 ≠ 26 by omega), upR_ne _ _ (show 24 ≠ 26 by omega)]; exact r6 j hj hb) (by rw [upR_eq]; exact e2) (fun p => (e3 p).1) (n - 0) 0 FU rfl (by omega) (by unfold FU; omega)
        have hHit : ∀ i, i < n → (Hit t σ K P S DC i ↔ Hit t σ K P S DM i) := by
          intro i hi
          have hP' := (wy_S hV q7 hp7 hm.2.2.1 (i := i + 1) (by omega)).1
          have hK' : K (i + 1) ≤ 60 := by have := CB_le (wy_CB q7 (i := i + 1) (by omega)); omega
          unfold Hit
          rw [far_iff c3' c4' (by omega) hP' (by omega), far_iff e3 e4 (by omega) hP' (by omega)]
        have hokE : WayOK w E' := hok.kp (hkp.tr k1)
        rcases k2 with ⟨a, x1, x2, x3, x4, x5⟩ | ⟨x1, x2⟩
        · rcases hrM with ⟨b, z1, z2, z3, z4, z5⟩ | ⟨z1, z2⟩
          · have : a = b := by
              rcases Nat.lt_trichotomy a b with h | h | h
              · exact absurd ((hHit a x2).mp x3) (z4 a (by omega) h)
              · exact h
              · exact absurd ((hHit b z2).mpr z3) (x4 b (by omega) h)
            subst this
            have x5' : m_X3_placeOfRobbery_L11 vW FU (st (st (st V1 0 11 (V1 0 8)) 0 12 0) 0 13 (V1 0 10)) 0 = _ := x5
            have z5' : m_X6_robbed_L50 FU (upR v' 26 fM) 0 = _ := z5
            rw [x5', bnd_s, sm_l, bnd_s, z5', bnd_s, sm_l]
            exact ⟨_, _, rfl, rfl, rfl, Inv.mk' hIT hIW hIS hII hIJ hIC hvT hfr2 hokE⟩
          · exact absurd ((hHit a x2).mp x3) (z1 a (by omega) x2)
        · rcases hrM with ⟨b, z1, z2, z3, z4, z5⟩ | ⟨z1, z2⟩
          · exact absurd ((hHit b z2).mpr z3) (x1 b (by omega) z2)
          · have x2' : m_X3_placeOfRobbery_L11 vW FU (st (st (st V1 0 11 (V1 0 8)) 0 12 0) 0 13 (V1 0 10)) 0 = _ := x2
            have z2' : m_X6_robbed_L50 FU (upR v' 26 fM) 0 = _ := z2
            rw [x2', bnd_s, sm_r, bnd_s, z2', bnd_s, sm_r]
            exact ⟨_, _, rfl, rfl, rfl, Inv.mk' hIT hIW hIS hII hIJ hIC hvT hfr2 hokE⟩
    · rw [hasPlace_n hV hWC hb, bnd_s, if0, isPlace_n hV hWM hb, bnd_s, if0]
      exact ⟨_, _, rfl, rfl, rfl, hI.same⟩
  · rw [if_neg hb, if_neg hb]
    exact ⟨_, _, rfl, rfl, rfl, hI.same⟩
end
