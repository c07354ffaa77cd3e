/-! PURE: the journey's calls -/
def up (z : Nat → Nat) (i x : Nat) : Nat → Nat := fun k => if k = i then x else z k
theorem up_eq (z : Nat → Nat) (i x : Nat) : up z i x i = x := if_pos rfl
theorem up_ne (z : Nat → Nat) {i k : Nat} (x : Nat) (h : k ≠ i) : up z i x k = z k := if_neg h
theorem SC_up0 {z : Nat → Nat} {v : Ob} (h : SC z v) (x : Nat) : SC (up z 0 x) (st v 0 0 (nI x)) := by
  obtain ⟨a0, a1, a2, a3, a4⟩ := h
  refine ⟨rfl, a1, a2, a3, fun k hk => ?_⟩
  rw [up_ne _ _ (by omega)] at hk
  rw [up_ne _ _ (by omega), up_ne _ _ (by omega), up_ne _ _ (by omega)]
  exact a4 k hk
theorem SC_up1 {z : Nat → Nat} {v : Ob} (h : SC z v) (x : Nat) : SC (up z 1 x) (st v 0 1 (nI x)) := by
  obtain ⟨a0, a1, a2, a3, a4⟩ := h
  refine ⟨a0, rfl, a2, a3, fun k hk => ?_⟩
  rw [up_ne _ _ (by omega)] at hk
  rw [up_ne _ _ (by omega), up_ne _ _ (by omega), up_ne _ _ (by omega)]
  exact a4 k hk
theorem SC_up2 {z : Nat → Nat} {v : Ob} (h : SC z v) (x : Nat) : SC (up z 2 x) (st v 0 2 (nI x)) := by
  obtain ⟨a0, a1, a2, a3, a4⟩ := h
  refine ⟨a0, a1, rfl, a3, fun k hk => ?_⟩
  rw [up_ne _ _ (by omega)] at hk
  rw [up_ne _ _ (by omega), up_ne _ _ (by omega), up_ne _ _ (by omega)]
  exact a4 k hk
theorem SM_up {z : Nat → Nat} {f : Nat → Int32} (h : SM z f 0) {i : Nat} (hi : i < 3) (x : Nat) : SM (up z i x) (upd f i (nI x)) 0 := by
  obtain ⟨a0, a1, a2, a3, a4⟩ := h
  simp only [Nat.zero_add] at a0 a1 a2 a3 a4
  have key : ∀ k y, (k ≠ i → f k = nI (z k)) → y = k → upd f i (nI x) y = nI (up z i x k) := by
    intro k y hk e
    subst e
    by_cases h : y = i
    · subst h; rw [upd_eq, up_eq]
    · rw [upd_ne _ _ h, up_ne _ _ h]; exact hk h
  refine ⟨key 0 _ (fun _ => a0) rfl, key 1 _ (fun _ => a1) (by omega), key 2 _ (fun _ => a2) (by omega), key 3 _ (fun _ => a3) (by omega), fun k hk => ?_⟩
  rw [up_ne _ _ (by omega)] at hk
  obtain ⟨b1, b2, b3⟩ := a4 k hk
  exact ⟨key _ _ (fun _ => b1) (by omega), key _ _ (fun _ => b2) (by omega), key _ _ (fun _ => b3) (by omega)⟩
theorem SV_up {w z : Nat → Nat} (h : SV w z) {p t s : Nat} (hm : MV w p t s) : SV w (up (up (up z 0 p) 1 t) 2 s) := by
  obtain ⟨-, h2, h4⟩ := h
  refine ⟨?_, by rw [up_ne _ _ (by omega), up_ne _ _ (by omega), up_ne _ _ (by omega)]; exact h2, fun k hk => ?_⟩
  · rw [up_ne (k := 0) _ _ (by omega), up_ne (k := 0) _ _ (by omega), up_eq, up_ne (k := 1) _ _ (by omega), up_eq, up_eq]; exact hm
  · rw [up_ne _ _ (by omega), up_ne _ _ (by omega), up_ne _ _ (by omega)] at hk
    rw [up_ne _ _ (by omega), up_ne _ _ (by omega), up_ne _ _ (by omega), up_ne _ _ (by omega), up_ne _ _ (by omega), up_ne _ _ (by omega), up_ne _ _ (by omega), up_ne _ _ (by omega), up_ne _ _ (by omega)]
    exact h4 k hk
theorem gifts_lt {w : Nat → Nat} : ∀ H, (∀ h, h < H → w (58 + h) < 5) → gifts w H < 32
  | 0, _ => show 0 < 32 by decide
  | H + 1, hh => by
    have h1 := gifts_lt H (fun h hl => hh h (by omega))
    have h2 : 2 ^ w (58 + H) < 2 ^ 5 := Nat.pow_lt_pow_right (by decide) (hh H (by omega))
    exact Nat.or_lt_two_pow (n := 5) h1 h2
theorem gifts_bit {w : Nat → Nat} : ∀ H h, h < H → (gifts w H).testBit (w (58 + h)) = true
  | 0, h, hh => by omega
  | H + 1, h, hh => by
    show (gifts w H ||| 2 ^ w (58 + H)).testBit (w (58 + h)) = true
    rw [Nat.testBit_or]
    by_cases e : h = H
    · subst e; rw [Nat.testBit_two_pow_self, Bool.or_true]
    · rw [gifts_bit H h (by omega), Bool.true_or]
theorem tk_sub : ∀ s, s < 32 → ∀ G, G < 32 → ∀ t, t < 5 → s &&& G = s → s.testBit t = true → (s - 2 ^ t) &&& G = s - 2 ^ t := by decide +kernel
theorem gv_sub' : ∀ s, s < 32 → ∀ G, G < 32 → ∀ t, t < 5 → (s &&& G = s ∧ s.testBit t = false ∧ G.testBit t = true) → (s + 2 ^ t) &&& G = s + 2 ^ t := by decide +kernel
theorem gv_sub (s : Nat) (hs : s < 32) (G : Nat) (hG : G < 32) (t : Nat) (ht : t < 5) (h1 : s &&& G = s) (h2 : s.testBit t = false) (h3 : G.testBit t = true) : (s + 2 ^ t) &&& G = s + 2 ^ t := gv_sub' s hs G hG t ht ⟨h1, h2, h3⟩
theorem MV_ent {w : Nat → Nat} (hV : WV w) {p h s q h' s' : Nat} (hm : MV w p h s) (hq : q < w 0) (hh : h' ≤ 9999) {t : Nat} (he : sEnt w q t s = some s') : MV w q h' s' := by
  obtain ⟨-, -, hs, hg⟩ := hm
  have hG := gifts_lt (w 2) (fun i hi => (hV.2.2.2.2.2.2.2 i hi).2.1)
  refine ⟨Or.inl hq, hh, sEnt_lt hV hq hs he, ?_⟩
  obtain ⟨hl, -, -, -⟩ := hV.2.2.2.2.1 q hq
  unfold sEnt at he
  split at he
  · split at he
    · cases he; exact hg
    · split at he
      · next hb => cases he; exact tk_sub s hs _ hG _ (by omega) hg hb
      · cases he
  · cases he
theorem sGive_eq {w : Nat → Nat} {k p s s' : Nat} (h : sGive w k p s = some s') : s.testBit (w (58 + k)) = false ∧ s' = s + 2 ^ w (58 + k) ∧ w (52 + k) = p := by
  unfold sGive at h
  split at h
  · next hc => cases h; exact ⟨hc.2.2, rfl, hc.1⟩
  · cases h
theorem MV_give {w : Nat → Nat} (hV : WV w) {p h s k s' : Nat} (hm : MV w p h s) (hk : k < w 2) (he : sGive w k p s = some s') : MV w p h s' := by
  obtain ⟨hp, hh, hs, hg⟩ := hm
  obtain ⟨e1, e2, -⟩ := sGive_eq he
  have hG := gifts_lt (w 2) (fun i hi => (hV.2.2.2.2.2.2.2 i hi).2.1)
  have h5 := (hV.2.2.2.2.2.2.2 k hk).2.1
  subst e2
  exact ⟨hp, hh, gv_lt s hs _ h5 e1, gv_sub s hs _ hG _ h5 hg e1 (gifts_bit (w 2) k hk)⟩
theorem IMz {K : (Nat → Nat) → Ob → Prop} {j : Nat} {vY vW vI vJ vM vS' : Ob} {w z : Nat → Nat} {f : Nat → Int32} (hW : IW j w vW vM) (h1 : II w vI vM 0 0) (h2 : II w vJ vM 1 40) (hK : K w vY) (a : SV w z) (b : SC z vS') (c : SM z f 0) : IM K (j + 1) vY vW vS' vI vJ (upR vM 3 f) :=
  ⟨w, hW.up rfl, ⟨z, a, b, c⟩, h1.up rfl rfl, h2.up rfl rfl, hK⟩
theorem ls_7 (K : (Nat → Nat) → Ob → Prop) : LS7 (Inv K) := by
  intro j vX vR vY vC vW vD vS vI vJ vT vM uT hj hI
  obtain ⟨hT, ⟨w, ⟨hV, hWC, hWM, hco⟩, ⟨z, hSV, hSC, hSM⟩, hi1, hi2, hK⟩, hC, ht⟩ := id hI
  have hSM' := hSM
  obtain ⟨m0, m1, m2, m3, -⟩ := hSM
  simp only [Nat.zero_add] at m0 m1 m2 m3
  have h7 := hV.1
  have h99 := hSV.1.2.1
  unfold m_X5_waits m_X6_waits
  rw [hWC.1, c0, c1, hWM.1, hSC.2.1, m1]
  by_cases h0 : w 0 = 0
  · rw [h0, if_pos (show nI 0 = 0 from rfl), if_pos (show nI 0 = 0 from rfl)]
    exact ⟨_, _, rfl, rfl, rfl, hI.same⟩
  · rw [if_neg (nI_ne0 (by omega) (by omega)), if_neg (nI_ne0 (by omega) (by omega)), show (9999 : Int32) = nI 9999 from rfl, if_nI (by omega) (by omega)]
    by_cases h9 : z 1 = 9999
    · rw [if_neg (nI_nlt (by omega) (by omega)), if_pos h9]
      exact ⟨_, _, rfl, rfl, rfl, hI.same⟩
    · obtain ⟨v', e1, k1, f1⟩ := remC hSC hSV.2.1
      obtain ⟨f, e2, k2⟩ := remM hSM' hSV.2.1
      rw [if_pos (nI_lt (by omega) (by omega)), if_neg h9, e1, e2, bnd_s, bnd_s, upR_eq, st_upR]
      have r1 := (sRem_0 z).2.1
      have q1 : v' 0 1 = nI (z 1) := by rw [k1.2.1, r1]
      have q2 : f 1 = nI (z 1) := by have := k2.2.1; rw [Nat.zero_add] at this; rw [this, r1]
      rw [q1, q2, nI_1]
      refine ⟨_, _, rfl, rfl, by show nI (z 1 + 1) = upd f 1 (nI (z 1 + 1)) 1; rw [upd_eq], hT.up rfl rfl, IMz (z := up (sRem z) 1 (z 1 + 1)) ⟨hV, hWC, hWM, hco⟩ hi1 hi2 hK ?_ (SC_up1 k1 _) (SM_up k2 (by omega) _), hC.up rfl rfl rfl rfl, ht⟩
      have hm : MV w (z 0) (z 1 + 1) (z 2) := ⟨hSV.1.1, by omega, hSV.1.2.2⟩
      have := SV_up (sRem_V hSV) hm
      rw [show up (up (up (sRem z) 0 (z 0)) 1 (z 1 + 1)) 2 (z 2) = up (sRem z) 1 (z 1 + 1) from ?_] at this
      · exact this
      · funext k
        unfold up
        by_cases k2 : k = 2
        · subst k2; rw [if_pos rfl, if_neg (by omega), (sRem_0 z).2.2]
        · rw [if_neg k2]
          by_cases k1 : k = 1
          · rw [if_pos k1, if_pos k1]
          · rw [if_neg k1, if_neg k1]
            by_cases k0 : k = 0
            · subst k0; rw [if_pos rfl, (sRem_0 z).1]
            · rw [if_neg k0]
theorem ls_8 (K : (Nat → Nat) → Ob → Prop) : LS8 (Inv K) := by
  intro j vX vR vY vC vW vD vS vI vJ vT vM uT hj hI y
  obtain ⟨hT, ⟨w, ⟨hV, hWC, hWM, hco⟩, ⟨z, hSV, hSC, hSM⟩, hi1, hi2, hK⟩, hC, ht⟩ := id hI
  have hSM' := hSM
  obtain ⟨m0, m1, m2, m3, -⟩ := hSM
  simp only [Nat.zero_add] at m0 m1 m2 m3
  have h7 := hV.1
  have h6 := hV.2.2.1
  unfold m_X5_asks m_X6_asks
  rcases is_or y (w 2) (by omega) with ⟨k, hk, rfl⟩ | hb
  · have hp8 : z 0 < 8 := by rcases hSV.1.1 with h | h <;> omega
    obtain ⟨-, h5, -⟩ := hV.2.2.2.2.2.2.2 k hk
    rw [hasHost_y hV hWC hk, isHost_y hV hWM hk, bnd_s, bnd_s, if1, if1, c0, c2, m0, m2, hSC.1, hSC.2.2.1, isGivenC hV hWC hk hp8 hSV.1.2.2.1, givenM hV hWM hk hp8 hSV.1.2.2.1, bnd_s, bnd_s, if_bi]
    cases hg : sGive w k (z 0) (z 2) with
    | none =>
      rw [if_neg (by simp), if_neg (show ¬ (0 : Int32) ≤ -1 by decide)]
      exact ⟨_, _, rfl, rfl, rfl, hI.same⟩
    | some s' =>
      obtain ⟨g1, g2, -⟩ := sGive_eq hg
      have hm := MV_give hV hSV.1 hk hg
      obtain ⟨v', e1, k1, f1⟩ := remC hSC hSV.2.1
      obtain ⟨f, e2, k2⟩ := remM hSM' hSV.2.1
      have q2 : v' 0 2 = nI (z 2) := by rw [k1.2.2.1, (sRem_0 z).2.2]
      rw [if_pos (by simp), if_pos (nI_pos' (by have := hm.2.2.1; omega)), e1, e2, bnd_s, bnd_s, hostGives_y hV hWC hk, bnd_s, q2, gv_small _ hSV.1.2.2.1 _ h5 g1, ← g2, st_upR]
      refine ⟨_, _, rfl, rfl, rfl, hT.up rfl rfl, IMz (z := up (sRem z) 2 s') ⟨hV, hWC, hWM, hco⟩ hi1 hi2 hK ?_ (SC_up2 k1 _) (SM_up k2 (by omega) _), hC.up rfl rfl rfl rfl, ht⟩
      have := SV_up (sRem_V hSV) hm
      rw [show up (up (up (sRem z) 0 (z 0)) 1 (z 1)) 2 s' = up (sRem z) 2 s' from ?_] at this
      · exact this
      · funext k
        unfold up
        by_cases k2 : k = 2
        · rw [if_pos k2, if_pos k2]
        · rw [if_neg k2, if_neg k2]
          by_cases k1 : k = 1
          · subst k1; rw [if_pos rfl, (sRem_0 z).2.1]
          · rw [if_neg k1]
            by_cases k0 : k = 0
            · subst k0; rw [if_pos rfl, (sRem_0 z).1]
            · rw [if_neg k0]
  · rw [hasHost_n hV hWC hb, isHost_n hV hWM hb, bnd_s, bnd_s, if0, if0]
    exact ⟨_, _, rfl, rfl, rfl, hI.same⟩
theorem canWalkC {w z : Nat → Nat} {vX vW vS : Ob} (hV : WV w) (hWC : WC w vW) (hSV : SV w z) (hSC : SC z vS) {k : Nat} (hk : k < w 1) : m_X5_canWalk vX vW vS (nI k) = some (if z 1 + w (43 + k) ≤ 9999 ∧ (sWalk w k (z 0) (z 1 + w (43 + k)) (z 2)).isSome = true then 1 else 0) := by
  have h7 := hV.1
  have hp8 : z 0 < 8 := by rcases hSV.1.1 with h | h <;> omega
  have h99 := hSV.1.2.1
  obtain ⟨-, -, -, hl1, hl9⟩ := hV.2.2.2.2.2.2.1 k hk
  unfold m_X5_canWalk sWalk
  rw [hSC.1, hSC.2.1, hSC.2.2.1, farEndC hV hWC hk hp8, bnd_s, roadHours_y hV hWC hk, bnd_s, nI_add]
  cases hf : sFar w k (z 0) with
  | none => rw [if_pos rfl, if_neg (by simp)]
  | some q =>
    have hq := sFar_lt hV hk hf
    simp only [Option.bind_some]
    rw [if_neg (nI_n9 (by omega))]
    by_cases h9 : z 1 + w (43 + k) ≤ 9999
    · rw [if_neg (by rw [show (9999 : Int32) = nI 9999 from rfl]; exact nI_nlt (by omega) (by omega)), letsInC hV hWC hq (by omega) hSV.1.2.2.1, bnd_s, if_bi]
      by_cases he : (sEnt w q (z 1 + w (43 + k)) (z 2)).isSome = true
      · rw [if_pos he, if_pos ⟨h9, by simpa using he⟩]
      · rw [if_neg he, if_neg (fun z => he (by simpa using z.2))]
    · rw [if_pos (by rw [show (9999 : Int32) = nI 9999 from rfl]; exact nI_lt (by omega) (by omega)), if_neg (fun z => h9 z.1)]
theorem ls_6 (K : (Nat → Nat) → Ob → Prop) : LS6 (Inv K) := by
  intro j vX vR vY vC vW vD vS vI vJ vT vM uT hj hI y
  obtain ⟨hT, ⟨w, ⟨hV, hWC, hWM, hco⟩, ⟨z, hSV, hSC, hSM⟩, hi1, hi2, hK⟩, hC, ht⟩ := id hI
  have hSM' := hSM
  obtain ⟨m0, m1, m2, m3, -⟩ := hSM
  simp only [Nat.zero_add] at m0 m1 m2 m3
  have h7 := hV.1
  have h9' := hV.2.1
  have h99 := hSV.1.2.1
  unfold m_X5_walks m_X6_walks
  rcases is_or y (w 1) (by omega) with ⟨k, hk, rfl⟩ | hb
  · have hp8 : z 0 < 8 := by rcases hSV.1.1 with h | h <;> omega
    obtain ⟨-, -, -, hl1, hl9⟩ := hV.2.2.2.2.2.2.1 k hk
    have e43 : (43 : Int32) + nI k = nI (43 + k) := nI_add 43 k
    rw [hasRoad_y hV hWC hk, isRoad_y hV hWM hk, bnd_s, bnd_s, if1, if1, canWalkC hV hWC hSV hSC hk, bnd_s, if_bi, e43, grd_t (inb_nI (by omega) (by omega)), cl (by omega), c0, c1, c2, m0, m1, m2, (hWM.2.2.2.2.2.1 k hk).2.2, nI_add]
    by_cases h9 : z 1 + w (43 + k) ≤ 9999
    · rw [if_pos (show nI (z 1 + w (43 + k)) ≤ 9999 from by rw [show (9999 : Int32) = nI 9999 from rfl]; exact nI_le h9 (by omega)), entersM hV hWM hk hp8 (by omega) hSV.1.2.2.1, bnd_s]
      cases hw : sWalk w k (z 0) (z 1 + w (43 + k)) (z 2) with
      | none =>
        rw [if_neg (by simp)]
        unfold m_X6_walks_j56
        rw [if_neg (show ¬ (0 : Int32) ≤ -1 by decide)]
        exact ⟨_, _, rfl, rfl, rfl, hI.same⟩
      | some x =>
        obtain ⟨q, s'⟩ := x
        unfold sWalk at hw
        cases hf : sFar w k (z 0) with
        | none => rw [hf] at hw; cases hw
        | some q' =>
          rw [hf, Option.bind_some] at hw
          cases he : sEnt w q' (z 1 + w (43 + k)) (z 2) with
          | none => rw [he] at hw; cases hw
          | some s'' =>
            rw [he] at hw
            cases hw
            have hq := sFar_lt hV hk hf
            have hm := MV_ent hV hSV.1 hq h9 he
            obtain ⟨v', e1, k1, f1⟩ := remC hSC hSV.2.1
            obtain ⟨f, e2, k2⟩ := remM hSM' hSV.2.1
            have q1 : v' 0 1 = nI (z 1) := by rw [k1.2.1, (sRem_0 z).2.1]
            have q2 : v' 0 2 = nI (z 2) := by rw [k1.2.2.1, (sRem_0 z).2.2]
            have q0 : f 0 = nI (z 0) := by have := k2.1; rw [this, (sRem_0 z).1]
            unfold m_X6_walks_j56
            rw [if_pos (by simp [h9]), if_pos (nI_pos' (by have := hm.2.2.1; omega)), hSC.1, farEndC hV hWC hk hp8, hf, bnd_s, e1, e2, bnd_s, bnd_s, roadHours_y hV hWC hk, bnd_s, q1, q2, thingsInsideC hV hWC hq hSV.1.2.2.1 he, bnd_s, upR_eq, c0, q0, otherEndM (v := upR vM 3 f) hV hWM hk hp8, hf, bnd_s, st_upR, st_upR, st_upR, nI_add]
            refine ⟨_, _, rfl, rfl, ?_, hT.up rfl rfl, IMz (z := up (up (up (sRem z) 0 q) 1 (z 1 + w (43 + k))) 2 s') ⟨hV, hWC, hWM, hco⟩ hi1 hi2 hK (SV_up (sRem_V hSV) hm) (SC_up2 (SC_up1 (SC_up0 k1 _) _) _) (SM_up (SM_up (SM_up k2 (by omega) _) (by omega) _) (by omega) _), hC.up rfl rfl rfl rfl, ht⟩
            show nI q = upd (upd (upd f 0 (nI q)) 1 (nI (z 1 + w (43 + k)))) 2 (nI s') 0
            rw [upd_ne _ _ (by omega), upd_ne _ _ (by omega), upd_eq]
    · rw [if_neg (show ¬ nI (z 1 + w (43 + k)) ≤ 9999 from by rw [show (9999 : Int32) = nI 9999 from rfl]; exact nI_ge (by omega) (by omega)), if_neg (fun z => h9 z.1)]
      unfold m_X6_walks_j56
      rw [if_neg (show ¬ (0 : Int32) ≤ -1 by decide)]
      exact ⟨_, _, rfl, rfl, rfl, hI.same⟩
  · rw [hasRoad_n hV hWC hb, isRoad_n hV hWM hb, bnd_s, bnd_s, if0, if0]
    exact ⟨_, _, rfl, rfl, rfl, hI.same⟩
