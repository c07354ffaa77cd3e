section
/-! PURE: the way that is kept -/
def FW (w : Nat → Nat) (t p0 H s0 : Nat) (v : Ob) : Prop := (v 0 7 = nI t ∧ v 0 8 = nI p0 ∧ v 0 9 = nI H ∧ v 0 10 = nI s0) ∧ ((v 0 6 = -9 ∧ v 0 5 = nI 0 ∧ ∀ e, e ≤ 60 → ¬ CB w H 99 99 t e 0 p0 s0) ∨ ∃ (e n : Nat) (σ K P S : Nat → Nat), e ≤ 60 ∧ n ≤ 100 ∧ v 0 6 = nI e ∧ v 0 5 = nI n ∧ (∀ i, i < n → v 5 i = nI (σ i)) ∧ Wy w H t e p0 s0 n σ K P S ∧ ∀ e', e' < e → ¬ CB w H 99 99 t e' 0 p0 s0)
def WayOK (w : Nat → Nat) (v : Ob) : Prop := v 0 7 = -9 ∨ ∃ t p0 H s0, t < 5 ∧ p0 < 7 ∧ H ≤ 9999 ∧ s0 < 32 ∧ FW w t p0 H s0 v
/-- what the way that is kept speaks of -/
def Kp (v v' : Ob) : Prop := v' 5 = v 5 ∧ ∀ c, c < 11 → v' 0 c = v 0 c
theorem FW.kp {w : Nat → Nat} {t p0 H s0 : Nat} {v v' : Ob} (h : FW w t p0 H s0 v) (k : Kp v v') : FW w t p0 H s0 v' := by
  unfold FW
  rw [k.1, k.2 5 (by omega), k.2 6 (by omega), k.2 7 (by omega), k.2 8 (by omega), k.2 9 (by omega), k.2 10 (by omega)]
  exact h
theorem WayOK.kp {w : Nat → Nat} {v v' : Ob} (h : WayOK w v) (k : Kp v v') : WayOK w v' := by
  rcases h with h | ⟨t, p0, H, s0, h1, h2, h3, h4, h5⟩
  · exact Or.inl (by rw [k.2 7 (by omega)]; exact h)
  · exact Or.inr ⟨t, p0, H, s0, h1, h2, h3, h4, h5.kp k⟩
theorem Kp.rfl' (v : Ob) : Kp v v := ⟨rfl, fun _ _ => rfl⟩
theorem Kp.tr {a b c : Ob} (h : Kp a b) (g : Kp b c) : Kp a c := ⟨g.1.trans h.1, fun x hx => (g.2 x hx).trans (h.2 x hx)⟩
theorem Kp.up (v : Ob) {r : Nat} (h0 : r ≠ 0) (h5 : r ≠ 5) (f : Nat → Int32) : Kp v (upR v r f) := ⟨upR_ne _ _ (by omega), fun c _ => by rw [upR_ne _ _ (by omega)]⟩
theorem Kp.mv {v v' : Ob} (h : Mv v v') : Kp v v' := ⟨h.1 5 (by omega), fun c hc => h.2 c (by omega) (by omega) (by omega)⟩
theorem wayOK_n (w : Nat → Nat) (v : Ob) : WayOK w (st v 0 7 (-9)) := Or.inl (by rw [st_row_eq, upd_eq])
theorem findL {w : Nat → Nat} {vW vS V : Ob} (hV : WV w) (hC : WC w vW) {g : Nat → Int32} {H t e p0 s0 n : Nat} {σ K P S : Nat → Nat} (hH : H ≤ 9999) (hS : vS 0 1 = nI H) (ht : t < 5) (h7t : V 0 7 = nI t) (he : e ≤ 60) (hp0 : p0 < 7) (hs0 : s0 < 32) (hg : ∀ k p s, p < 7 → s < 32 → (TB g k p s = true ↔ CB w H 99 99 t e k p s)) (hW : Wy w H t e p0 s0 n σ K P S) (hn : n ≤ 100) : ∀ (f i : Nat) (E : Ob), i ≤ n → n - i < f → At V g (K i) (P i) (S i) E → E 0 5 = nI i → (∀ j, j < i → E 5 j = nI (σ j)) → (∀ c, 6 ≤ c → c < 11 → E 0 c = V 0 c) →
    ∃ E', m_X3_findWay_L88 vW vS f E (nI i) = some (Sum.inl E') ∧ E' 0 5 = nI n ∧ (∀ j, j < n → E' 5 j = nI (σ j)) ∧ ∀ c, 6 ≤ c → c < 11 → E' 0 c = V 0 c
  | 0, i, E, hi, hf, _, _, _, _ => by omega
  | f + 1, i, E, hi, hf, hE, h5, hst, hfr => by
    have h9 := hV.2.1
    have h6 := hV.2.2.1
    obtain ⟨hPi, hSi⟩ := wy_S hV hW hp0 hs0 hi
    show ∃ E', m_X3_findWay_L88B vW vS (m_X3_findWay_L88 vW vS f) E (nI i) = some (Sum.inl E') ∧ _
    unfold m_X3_findWay_L88B
    rw [if_neg (by rw [show (125 : Int32) = nI 125 from rfl]; exact nI_ge (by omega) (by omega))]
    by_cases hlt : i < n
    · have hL := hW.2.1 i hlt
      have hK : K i ≤ 60 := by have := CB_le (wy_CB hW hi); omega
      rw [nextC hV hC hH hS hE ht h7t he hPi hSi hg hL (hW.2.2.2 i hlt), bnd_s]
      have hσ : σ i < 100 := by
        rcases hL.1 with ⟨x1, -⟩ | ⟨r, x1, x2, -⟩ | ⟨h, x1, x2, -⟩ <;> omega
      rw [if_neg (nI_n9 (by omega)), grd_t (inb_nI (by omega) (by omega)), cl (by omega), nI_1]
      have hE1 : At V g (K i) (P i) (S i) (st (st E 5 i (nI (σ i))) 0 5 (nI (i + 1))) := by
        obtain ⟨e1, e2, e3, e4, e5⟩ := hE
        refine ⟨?_, ?_, ?_, ?_, ?_⟩
        · rw [st_row_ne _ _ _ (by omega), st_row_ne _ _ _ (by omega)]; exact e1
        · rw [st_row_eq, upd_ne _ _ (by omega), st_row_ne _ _ _ (by omega)]; exact e2
        · rw [st_row_eq, upd_ne _ _ (by omega), st_row_ne _ _ _ (by omega)]; exact e3
        · rw [st_row_eq, upd_ne _ _ (by omega), st_row_ne _ _ _ (by omega)]; exact e4
        · rw [st_row_eq, upd_ne _ _ (by omega), st_row_ne _ _ _ (by omega)]; exact e5
      obtain ⟨E2, t1, t2, t3⟩ := takeC hV hC hE1 hK hPi hSi hL.1
      rw [t1, bnd_s]
      refine findL hV hC hH hS ht h7t he hp0 hs0 hg hW hn f (i + 1) E2 (by omega) (by omega) t2 ?_ ?_ ?_
      · rw [t3.2 5 (by omega) (by omega) (by omega), st_row_eq, upd_eq]
      · intro j hj
        rw [t3.1 5 (by omega), st_row_ne _ _ _ (by omega), st_row_eq]
        by_cases hji : j = i
        · subst hji; rw [upd_eq]
        · rw [upd_ne _ _ hji]; exact hst j (by omega)
      · intro c c1 c2
        rw [t3.2 c (by omega) (by omega) (by omega), st_row_eq, upd_ne _ _ (by omega), st_row_ne _ _ _ (by omega)]
        exact hfr c c1 c2
    · have : i = n := by omega
      subst this
      obtain ⟨f1, f2, f3⟩ := hW.2.2.1
      rw [f2] at hE
      rw [nextEnd hE ht h7t hSi f3, bnd_s, if_pos rfl]
      exact ⟨E, rfl, h5, hst, hfr⟩
theorem findC {w z : Nat → Nat} {vW vS vY : Ob} (hV : WV w) (hC : WC w vW) (hm : MV w (z 0) (z 1) (z 2)) (hS0 : vS 0 0 = nI (z 0)) (hS1 : vS 0 1 = nI (z 1)) (hS2 : vS 0 2 = nI (z 2)) (hcost : w 0 = 0 ∨ cost w ≤ 62) (hK : WayOK w vY) {t : Nat} (ht : t < 5) : ∃ v, m_X3_findWay vY vW vS (nI t) = some v ∧ FW w t (z 0) (z 1) (z 2) v := by
  have h7 := hV.1
  have hp7 : z 0 < 7 := by have := hm.1; omega
  have hs32 := hm.2.2.1
  have hH := hm.2.1
  unfold m_X3_findWay m_X3_isWayKnown
  rw [hS0, hS1, hS2]
  have fresh : ∀ o : Int32, o = 0 → ∃ v, (if o = 0 then (((m_X3_fewestHours (st (st (st (st (st vY 0 7 (nI t)) 0 8 (nI (z 0))) 0 9 (nI (z 1))) 0 10 (nI (z 2))) 0 5 (0 : Int32)) vW vS (nI t) (-1 : Int32) (-1 : Int32)).bind fun o57 => if o57.1 = (-9 : Int32) then (some (st o57.2 0 6 o57.1)) else (((m_X3_fillBackward (st o57.2 0 6 o57.1) vW vS (nI t) o57.1).bind fun o79 => ((m_X3_standAtStart o79).bind fun o83 => ((m_X3_findWay_L88 vW vS FU o83 (0 : Int32)).bind fun o88_1 => Sum.elim (fun r => some r) (fun o88_1x => some o88_1x) o88_1)))))) else (some vY)) = some v ∧ FW w t (z 0) (z 1) (z 2) v := by
    intro o ho
    rw [if_pos ho]
    generalize hV0 : st (st (st (st (st vY 0 7 (nI t)) 0 8 (nI (z 0))) 0 9 (nI (z 1))) 0 10 (nI (z 2))) 0 5 (0 : Int32) = V0
    have v7 : V0 0 7 = nI t := by rw [← hV0]; simp [st_get]
    have v8 : V0 0 8 = nI (z 0) := by rw [← hV0]; simp [st_get]
    have v9 : V0 0 9 = nI (z 1) := by rw [← hV0]; simp [st_get]
    have v10 : V0 0 10 = nI (z 2) := by rw [← hV0]; simp [st_get]
    have v5 : V0 0 5 = nI 0 := by rw [← hV0]; simp [st_get, nI_0]
    obtain ⟨g, hg⟩ := fewest hV hC V0 99 99 (t := t) hH hS0 hS1 hS2 hp7 hs32 ht
    rcases hg with ⟨e, g1, g2, g3, g4⟩ | ⟨g1, g2⟩
    · have g2' : m_X3_fewestHours V0 vW vS (nI t) (-1) (-1) = _ := g2
      rw [g2', bnd_s]
      dsimp only
      rw [if_neg (nI_n9 (by omega))]
      have hcb : CB w (z 1) 99 99 t e 0 (z 0) (z 2) := CB_iff.mpr g3
      have hmin : ∀ e', e' < e → ¬ CB w (z 1) 99 99 t e' 0 (z 0) (z 2) := fun e' h q => g4 e' h (CB_iff.mp q)
      have hw0 : 0 < w 0 := by
        rcases Nat.eq_zero_or_pos (w 0) with q | q
        · have hz2 : z 2 = 0 := by rw [← hm.2.2.2, gifts0 hV q, Nat.and_zero]
          rw [hz2] at hcb
          exact absurd hcb (no0 hV q)
        · exact q
      obtain ⟨n, σ, K, P, S, hW⟩ := wy_of hV hs32 hcb hmin
      have hn := wy_100 hV hW hp7 hs32 hm.2.2.2 g1 hw0 (by omega)
      obtain ⟨g5, b1, b2⟩ := backward hV hC (st (upR V0 3 g) 0 6 (nI e)) (t := t) hH hS1 g1 ht
      rw [b1, bnd_s]
      unfold m_X3_standAtStart
      rw [bnd_s]
      generalize hV1 : upR (st (upR V0 3 g) 0 6 (nI e)) 3 g5 = V1
      have u3 : V1 3 = g5 := by rw [← hV1, upR_eq]
      have u6 : V1 0 6 = nI e := by rw [← hV1]; simp [st_get, upR_get]
      have u7 : V1 0 7 = nI t := by rw [← hV1]; simp [st_get, upR_get, v7]
      have u8 : V1 0 8 = nI (z 0) := by rw [← hV1]; simp [st_get, upR_get, v8]
      have u9 : V1 0 9 = nI (z 1) := by rw [← hV1]; simp [st_get, upR_get, v9]
      have u10 : V1 0 10 = nI (z 2) := by rw [← hV1]; simp [st_get, upR_get, v10]
      have u5 : V1 0 5 = nI 0 := by rw [← hV1]; simp [st_get, upR_get, v5]
      obtain ⟨E', q1, q2, q3, q4⟩ := findL (V := V1) hV hC hH hS1 ht u7 g1 hp7 hs32 b2 hW hn FU 0 (st (st (st V1 0 11 (V1 0 8)) 0 12 0) 0 13 (V1 0 10)) (by omega) (by unfold FU; omega) (by
        refine ⟨?_, ?_, ?_, ?_, ?_⟩
        · rw [st_row_ne _ _ _ (by omega), st_row_ne _ _ _ (by omega), st_row_ne _ _ _ (by omega)]; exact u3
        · rw [hW.1.2.1]; simp [st_get, u8]
        · rw [hW.1.1]; simp [st_get, nI_0]
        · rw [hW.1.2.2]; simp [st_get, u10]
        · simp [st_get]) (by simp [st_get, u5]) (fun j hj => by omega) (fun c c1 c2 => by rw [st_row_eq, upd_ne _ _ (by omega), st_row_eq, upd_ne _ _ (by omega), st_row_eq, upd_ne _ _ (by omega)])
      have q1' : m_X3_findWay_L88 vW vS FU (st (st (st V1 0 11 (V1 0 8)) 0 12 0) 0 13 (V1 0 10)) 0 = _ := q1
      rw [q1', bnd_s, sm_l]
      exact ⟨E', rfl, ⟨by rw [q4 7 (by omega) (by omega), u7], by rw [q4 8 (by omega) (by omega), u8], by rw [q4 9 (by omega) (by omega), u9], by rw [q4 10 (by omega) (by omega), u10]⟩, Or.inr ⟨e, n, σ, K, P, S, g1, hn, by rw [q4 6 (by omega) (by omega), u6], q2, q3, hW, hmin⟩⟩
    · have g1' : m_X3_fewestHours V0 vW vS (nI t) (-1) (-1) = _ := g1
      rw [g1', bnd_s]
      dsimp only
      rw [if_pos rfl]
      refine ⟨_, rfl, ⟨?_, ?_, ?_, ?_⟩, Or.inl ⟨?_, ?_, fun e he q => g2 e he (CB_iff.mp q)⟩⟩
      · simp [st_get, upR_get, v7]
      · simp [st_get, upR_get, v8]
      · simp [st_get, upR_get, v9]
      · simp [st_get, upR_get, v10]
      · simp [st_get]
      · simp [st_get, upR_get, v5]
  by_cases k1 : nI t = vY 0 7
  · rw [if_pos k1]
    by_cases k2 : vY 0 8 = nI (z 0)
    · rw [if_pos k2]
      by_cases k3 : vY 0 9 = nI (z 1)
      · rw [if_pos k3]
        by_cases k4 : vY 0 10 = nI (z 2)
        · rw [if_pos k4, bnd_s, if_neg (by decide)]
          refine ⟨vY, rfl, ?_⟩
          rcases hK with q | ⟨t', p', H', s', h1, h2, h3, h4, h5⟩
          · rw [q] at k1; exact absurd k1 (nI_n9 (by omega))
          · obtain ⟨⟨a1, a2, a3, a4⟩, -⟩ := id h5
            have b1 : t' = t := ((nI_eq (by omega) (by omega)).mp (a1.symm.trans k1.symm))
            have b2 : p' = z 0 := ((nI_eq (by omega) (by omega)).mp (a2.symm.trans k2))
            have b3 : H' = z 1 := ((nI_eq (by omega) (by omega)).mp (a3.symm.trans k3))
            have b4 : s' = z 2 := ((nI_eq (by omega) (by omega)).mp (a4.symm.trans k4))
            subst b1; subst b2; subst b3; subst b4
            exact h5
        · rw [if_neg k4, bnd_s]; exact fresh 0 rfl
      · rw [if_neg k3, bnd_s]; exact fresh 0 rfl
    · rw [if_neg k2, bnd_s]; exact fresh 0 rfl
  · rw [if_neg k1, bnd_s]; exact fresh 0 rfl
end
