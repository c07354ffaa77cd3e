/-! PURE: now; the clocks -/
/-- bits gathered: k of them -/
def gat (p : Nat → Bool) : Nat → Int32
  | 0 => 0
  | k + 1 => if p k = true then gat p k ||| ((1 : Int32) <<< (nI k &&& 31)) else gat p k
theorem orz (x : Int32) : x ||| 0 = x := by apply b_ext; intro i _; rw [b_or, b_0, Bool.or_false]
def sCan (w z : Nat → Nat) (k : Nat) : Bool := decide (z 1 + w (43 + k) ≤ 9999) && (sWalk w k (z 0) (z 1 + w (43 + k)) (z 2)).isSome
theorem openRoadsL {w z : Nat → Nat} {vX vW vS : Ob} (hV : WV w) (hWC : WC w vW) (hSV : SV w z) (hSC : SC z vS) : ∀ n i, w 1 < i + n → i ≤ w 1 → m_X5_openRoads_L4 vX vW vS n (gat (sCan w z) i) (nI i) = some (gat (sCan w z) (w 1))
  | 0, i, h, h2 => by omega
  | n + 1, i, h, h2 => by
    have h9 := hV.2.1
    show m_X5_openRoads_L4B vX vW vS (m_X5_openRoads_L4 vX vW vS n) _ (nI i) = _
    unfold m_X5_openRoads_L4B m_X5_openRoads_j29
    rw [hWC.2.1]
    by_cases hi : i = w 1
    · rw [hi, if_pos (nI_le (Nat.le_refl _) (by omega))]
    · rw [if_neg (nI_ge (by omega) (by omega)), canWalkC hV hWC hSV hSC (by omega), bnd_s, if_bi, nI_1]
      by_cases hc : z 1 + w (43 + i) ≤ 9999 ∧ (sWalk w i (z 0) (z 1 + w (43 + i)) (z 2)).isSome = true
      · rw [if_pos hc]
        have e : gat (sCan w z) (i + 1) = gat (sCan w z) i ||| ((1 : Int32) <<< (nI i &&& 31)) := if_pos (by simp [sCan, hc.1, hc.2])
        rw [← e]
        exact openRoadsL hV hWC hSV hSC n (i + 1) (by omega) (by omega)
      · rw [if_neg hc]
        have e : gat (sCan w z) (i + 1) = gat (sCan w z) i := if_neg (by simp only [sCan, Bool.and_eq_true, decide_eq_true_eq]; exact hc)
        rw [← e]
        exact openRoadsL hV hWC hSV hSC n (i + 1) (by omega) (by omega)
theorem roadsNowL {w z : Nat → Nat} {vM : Ob} (hV : WV w) (hWM : WM w (vM 1)) (hSV : SV w z) (hSM : SM z (vM 3) 0) : ∀ n i, w 1 < i + n → i ≤ w 1 → m_X6_roadsNow_L4 vM n (gat (sCan w z) i) (nI i) = some (gat (sCan w z) (w 1))
  | 0, i, h, h2 => by omega
  | n + 1, i, h, h2 => by
    have h9 := hV.2.1
    have h7 := hV.1
    have h99 := hSV.1.2.1
    obtain ⟨m0, m1, m2, -, -⟩ := id hSM
    simp only [Nat.zero_add] at m0 m1 m2
    show m_X6_roadsNow_L4B vM (m_X6_roadsNow_L4 vM n) _ (nI i) = _
    unfold m_X6_roadsNow_L4B m_X6_roadsNow_j60 m_X6_roadsNow_j67
    rw [c1, hWM.2.1]
    by_cases hi : i = w 1
    · rw [hi, if_pos (nI_le (Nat.le_refl _) (by omega))]
    · have hi' : i < w 1 := by omega
      obtain ⟨-, -, -, hl1, hl9⟩ := hV.2.2.2.2.2.2.1 i hi'
      have hp8 : z 0 < 8 := by rcases hSV.1.1 with h | h <;> omega
      have e43 : (43 : Int32) + nI i = nI (43 + i) := nI_add 43 i
      rw [if_neg (nI_ge (by omega) (by omega)), e43, grd_t (inb_nI (by omega) (by omega)), cl (by omega), c0, c2, m0, m1, m2, (hWM.2.2.2.2.2.1 i hi').2.2, nI_add, orz, nI_1]
      by_cases hc : z 1 + w (43 + i) ≤ 9999
      · rw [if_neg (show ¬ (9999 : Int32) < nI (z 1 + w (43 + i)) from by rw [show (9999 : Int32) = nI 9999 from rfl]; exact nI_nlt hc (by omega)), entersM hV hWM hi' hp8 (by omega) hSV.1.2.2.1, bnd_s]
        cases hs : sWalk w i (z 0) (z 1 + w (43 + i)) (z 2) with
        | none =>
          rw [if_neg (show ¬ (0 : Int32) ≤ -1 by decide)]
          have e : gat (sCan w z) (i + 1) = gat (sCan w z) i := if_neg (by simp [sCan, hs])
          rw [← e]
          exact roadsNowL hV hWM hSV hSM n (i + 1) (by omega) (by omega)
        | some x =>
          have hx : x.2 < 2 ^ 31 := by
            unfold sWalk at hs
            cases hf : sFar w i (z 0) with
            | none => rw [hf] at hs; cases hs
            | some q =>
              rw [hf, Option.bind_some] at hs
              cases he : sEnt w q (z 1 + w (43 + i)) (z 2) with
              | none => rw [he] at hs; cases hs
              | some s' =>
                rw [he] at hs; cases hs
                have := sEnt_lt hV (sFar_lt hV hi' hf) hSV.1.2.2.1 he
                show s' < _
                omega
          rw [if_pos (nI_pos' hx)]
          have e : gat (sCan w z) (i + 1) = gat (sCan w z) i ||| ((1 : Int32) <<< (nI i &&& 31)) := if_pos (by simp [sCan, hs, hc])
          rw [← e]
          exact roadsNowL hV hWM hSV hSM n (i + 1) (by omega) (by omega)
      · rw [if_pos (show (9999 : Int32) < nI (z 1 + w (43 + i)) from by rw [show (9999 : Int32) = nI 9999 from rfl]; exact nI_lt (by omega) (by omega))]
        have e : gat (sCan w z) (i + 1) = gat (sCan w z) i := if_neg (by simp [sCan, hc])
        rw [← e]
        exact roadsNowL hV hWM hSV hSM n (i + 1) (by omega) (by omega)
def sGiv (w z : Nat → Nat) (k : Nat) : Bool := (sGive w k (z 0) (z 2)).isSome
theorem givingL {w z : Nat → Nat} {vX vW vS : Ob} (hV : WV w) (hWC : WC w vW) (hSV : SV w z) (hSC : SC z vS) : ∀ n i, w 2 < i + n → i ≤ w 2 → m_X5_givingHosts_L4 vX vW vS n (gat (sGiv w z) i) (nI i) = some (gat (sGiv w z) (w 2))
  | 0, i, h, h2 => by omega
  | n + 1, i, h, h2 => by
    have h9 := hV.2.2.1
    have h7 := hV.1
    have hp8 : z 0 < 8 := by rcases hSV.1.1 with h | h <;> omega
    show m_X5_givingHosts_L4B vX vW vS (m_X5_givingHosts_L4 vX vW vS n) _ (nI i) = _
    unfold m_X5_givingHosts_L4B m_X5_givingHosts_j46
    rw [hWC.2.2.1]
    by_cases hi : i = w 2
    · rw [hi, if_pos (nI_le (Nat.le_refl _) (by omega))]
    · rw [if_neg (nI_ge (by omega) (by omega)), hSC.1, hSC.2.2.1, isGivenC hV hWC (by omega) hp8 hSV.1.2.2.1, bnd_s, if_bi, nI_1]
      by_cases hc : (sGive w i (z 0) (z 2)).isSome = true
      · rw [if_pos hc]
        have e : gat (sGiv w z) (i + 1) = gat (sGiv w z) i ||| ((1 : Int32) <<< (nI i &&& 31)) := if_pos hc
        rw [← e]
        exact givingL hV hWC hSV hSC n (i + 1) (by omega) (by omega)
      · rw [if_neg hc]
        have e : gat (sGiv w z) (i + 1) = gat (sGiv w z) i := if_neg hc
        rw [← e]
        exact givingL hV hWC hSV hSC n (i + 1) (by omega) (by omega)
theorem sGive_lt {w : Nat → Nat} (hV : WV w) {k p s s' : Nat} (hk : k < w 2) (hs : s < 32) (h : sGive w k p s = some s') : s' < 32 := by
  obtain ⟨e1, e2, -⟩ := sGive_eq h
  subst e2
  exact gv_lt s hs _ (hV.2.2.2.2.2.2.2 k hk).2.1 e1
theorem hostsNowL {w z : Nat → Nat} {vM : Ob} (hV : WV w) (hWM : WM w (vM 1)) (hSV : SV w z) (hSM : SM z (vM 3) 0) : ∀ n i, w 2 < i + n → i ≤ w 2 → m_X6_hostsNow_L4 vM n (gat (sGiv w z) i) (nI i) = some (gat (sGiv w z) (w 2))
  | 0, i, h, h2 => by omega
  | n + 1, i, h, h2 => by
    have h9 := hV.2.2.1
    have h7 := hV.1
    have hp8 : z 0 < 8 := by rcases hSV.1.1 with h | h <;> omega
    obtain ⟨m0, m1, m2, -, -⟩ := id hSM
    simp only [Nat.zero_add] at m0 m1 m2
    show m_X6_hostsNow_L4B vM (m_X6_hostsNow_L4 vM n) _ (nI i) = _
    unfold m_X6_hostsNow_L4B m_X6_hostsNow_j42
    rw [c2, hWM.2.2.1]
    by_cases hi : i = w 2
    · rw [hi, if_pos (nI_le (Nat.le_refl _) (by omega))]
    · rw [if_neg (nI_ge (by omega) (by omega)), c0, m0, m2, givenM hV hWM (by omega) hp8 hSV.1.2.2.1, bnd_s, orz, nI_1]
      cases hs : sGive w i (z 0) (z 2) with
      | none =>
        rw [if_neg (show ¬ (0 : Int32) ≤ -1 by decide)]
        have e : gat (sGiv w z) (i + 1) = gat (sGiv w z) i := if_neg (by simp [sGiv, hs])
        rw [← e]
        exact hostsNowL hV hWM hSV hSM n (i + 1) (by omega) (by omega)
      | some x =>
        have hx := sGive_lt hV (by omega) hSV.1.2.2.1 hs
        rw [if_pos (nI_pos' (by omega))]
        have e : gat (sGiv w z) (i + 1) = gat (sGiv w z) i ||| ((1 : Int32) <<< (nI i &&& 31)) := if_pos (by simp [sGiv, hs])
        rw [← e]
        exact hostsNowL hV hWM hSV hSM n (i + 1) (by omega) (by omega)
theorem ls_10 (K : (Nat → Nat) → Ob → Prop) : LS10 (Inv K) := by
  intro j vX vR vY vC vW vD vS vI vJ vT vM uT hj hI y
  obtain ⟨hT, ⟨w, ⟨hV, hWC, hWM, hco⟩, ⟨z, hSV, hSC, hSM⟩, hi1, hi2, hK⟩, hC, ht⟩ := id hI
  obtain ⟨m0, m1, m2, -, -⟩ := id hSM
  simp only [Nat.zero_add] at m0 m1 m2
  have h7 := hV.1
  have h9 := hV.2.1
  have h6 := hV.2.2.1
  unfold m_X5_now m_X6_now
  rw [c0, c1, c2, m0, m1, m2, hWC.1, hWM.1, hSC.1, hSC.2.1, hSC.2.2.1]
  by_cases y0 : y = 0
  · rw [if_pos y0, if_pos y0]
    by_cases h0 : w 0 = 0
    · rw [h0, if_pos (show nI 0 = 0 from rfl)]
      exact ⟨_, _, rfl, rfl, rfl, hI.same⟩
    · rw [if_neg (show ¬ nI (w 0) = 0 from nI_ne0 (by omega) (by omega))]
      exact ⟨_, _, rfl, rfl, rfl, hI.same⟩
  rw [if_neg y0, if_neg y0]
  by_cases y1 : y = 1
  · rw [if_pos y1, if_pos y1]; exact ⟨_, _, rfl, rfl, rfl, hI.same⟩
  rw [if_neg y1, if_neg y1]
  by_cases y2 : y = 2
  · rw [if_pos y2, if_pos y2]; exact ⟨_, _, rfl, rfl, rfl, hI.same⟩
  rw [if_neg y2, if_neg y2]
  by_cases y3 : y = 3
  · rw [if_pos y3, if_pos y3]; exact ⟨_, _, rfl, rfl, rfl, hI.same⟩
  rw [if_neg y3, if_neg y3]
  by_cases y4 : y = 4
  · rw [if_pos y4, if_pos y4]
    unfold m_X5_openRoads m_X6_roadsNow
    have e1 := openRoadsL (vX := vX) hV hWC hSV hSC FU 0 (show w 1 < 0 + 1000 by omega) (by omega)
    have e2 := roadsNowL hV hWM hSV hSM FU 0 (show w 1 < 0 + 1000 by omega) (by omega)
    rw [show gat (sCan w z) 0 = (0 : Int32) from rfl, show nI 0 = (0 : Int32) from rfl] at e1 e2
    rw [e1, e2]
    exact ⟨_, _, rfl, rfl, rfl, hI.same⟩
  rw [if_neg y4, if_neg y4]
  by_cases y5 : y = 5
  · rw [if_pos y5, if_pos y5]
    unfold m_X5_givingHosts m_X6_hostsNow
    have e1 := givingL (vX := vX) hV hWC hSV hSC FU 0 (show w 2 < 0 + 1000 by omega) (by omega)
    have e2 := hostsNowL hV hWM hSV hSM FU 0 (show w 2 < 0 + 1000 by omega) (by omega)
    rw [show gat (sGiv w z) 0 = (0 : Int32) from rfl, show nI 0 = (0 : Int32) from rfl] at e1 e2
    rw [e1, e2]
    exact ⟨_, _, rfl, rfl, rfl, hI.same⟩
  rw [if_neg y5, if_neg y5]
  exact ⟨_, _, rfl, rfl, rfl, hI.same⟩
/-- the clock may be wrong -/
theorem fm_sm2 : ∀ h, h < 36 → ∀ o, o < 31 → h < o → m_J9_floorMod_7cf53 (nI h - nI o) 24 = some (nI ((h + 48 - o) % 24)) := by decide +kernel
theorem fm_2 {h o : Nat} (hh : h < 36) (ho : o < 31) : m_J9_floorMod_7cf53 (nI h - nI o) 24 = some (nI ((h + 48 - o) % 24)) := by
  by_cases hlt : h < o
  · exact fm_sm2 h hh o ho hlt
  · rw [pk_sub (by omega)]
    unfold m_J9_floorMod_7cf53
    rw [grd_t (by decide), if_pos, show (24 : Int32) = nI 24 from rfl, rem_nI (by omega) (by omega) (by omega)]
    · congr 2; omega
    · have := xor24 (a := h - o) (by omega)
      rw [Int32.le_iff_toInt_le]
      rw [Int32.lt_iff_toInt_lt] at this
      omega
theorem sub_sub {a b c : Nat} : nI a - nI b - nI c = nI a - nI (b + c) := by
  rw [← nI_add, Int32.sub_eq_add_neg, Int32.sub_eq_add_neg, Int32.sub_eq_add_neg, Int32.neg_add, Int32.add_assoc, Int32.sub_eq_add_neg]
theorem isOpenC2 {w : Nat → Nat} {v : Ob} (hV : WV w) (hC : WC w v) {k h c : Nat} (hk : k < w 0) (hh : h < 36) (hc : c < 7) : m_X4_isOpen v (nI k) (nI h - nI c) = some (if sOpen w k (h + 24 - c) = true then 1 else 0) := by
  have h7 := hV.1
  obtain ⟨-, hg, h1, h24⟩ := hV.2.2.2.2.1 k hk
  unfold m_X4_isOpen
  rw [hasPlace_y hV hC hk, bnd_s, if1, grd_t (inb_nI (by omega) (by omega)), cl (by omega), (hC.2.2.2.2.1 k hk).2.1]
  by_cases hn : w (11 + k) = 24
  · rw [hn, gI_24, if_pos rfl, if_pos]
    simp [sOpen, hn]
  · have ho : w (11 + k) < 24 := by omega
    rw [gI_ne ho, if_neg (nI_n9 (by omega)), grd_t (inb_nI (by omega) (by omega)), sub_sub, fm_2 hh (by omega), bnd_s, grd_t (inb_nI (by omega) (by omega)), (hC.2.2.2.2.1 k hk).2.2]
    have hm : (h + 48 - (c + w (11 + k))) % 24 < 24 := Nat.mod_lt _ (by omega)
    have he : (h + 48 - (c + w (11 + k))) % 24 = (h + 24 - c + 24 - w (11 + k)) % 24 := by congr 1; omega
    rw [he] at hm ⊢
    by_cases hc : (h + 24 - c + 24 - w (11 + k)) % 24 < w (18 + k)
    · rw [if_neg (nI_ge hc (by omega)), if_pos]
      simp [sOpen, hc]
    · rw [if_pos (nI_le (by omega) (by omega)), if_neg]
      simp [sOpen, hc, hn]
def sCnt (w : Nat → Nat) (p h : Nat) : Nat → Nat
  | 0 => 0
  | i + 1 => sCnt w p h i + (if sOpen w p (h + i + 24 - w 3) = true then 1 else 0)
theorem sCnt_le (w : Nat → Nat) (p h : Nat) : ∀ i, sCnt w p h i ≤ i
  | 0 => Nat.le_refl 0
  | i + 1 => by
    have := sCnt_le w p h i
    show sCnt w p h i + _ ≤ _
    split <;> omega
theorem ofl : ∀ o, o < 7 → ∀ i, i < 15 → (nI o < nI i - nI o ↔ 2 * o < i) := by decide +kernel
theorem ofs : ∀ o, o < 7 → ∀ i, i < 15 → nI i - nI o + 1 = nI (i + 1) - nI o := by decide +kernel
theorem of0 : ∀ o, o < 7 → -(nI o) = nI 0 - nI o := by decide +kernel
theorem addsub (h i o : Nat) : nI h + (nI i - nI o) = nI (h + i) - nI o := by
  rw [← nI_add, Int32.sub_eq_add_neg, Int32.sub_eq_add_neg, Int32.add_assoc]
theorem ofr : ∀ h, h < 38 → ∀ o, o < 7 → rem (nI h - nI o + 24) 24 = nI ((h + 24 - o) % 24) := by decide +kernel
theorem arC {w : Nat → Nat} {v : Ob} (hV : WV w) (hC : WC w v) {k h : Nat} (hk : k < w 0) (hh : h < 24) : ∀ n i, 2 * w 3 + 1 < i + n → i ≤ 2 * w 3 + 1 → m_X4_openAround_L9 v n (nI k) (nI h) (nI (sCnt w k h i)) (nI i - nI (w 3)) = some (nI (sCnt w k h (2 * w 3 + 1)))
  | 0, i, a, b => by omega
  | n + 1, i, a, b => by
    have h6 := hV.2.2.2.1
    show m_X4_openAround_L9B v (m_X4_openAround_L9 v n) (nI k) (nI h) _ _ = _
    unfold m_X4_openAround_L9B m_X4_openAround_j33
    rw [hC.2.2.2.1]
    by_cases hi : i = 2 * w 3 + 1
    · rw [if_pos ((ofl _ (by omega) i (by omega)).mpr (by omega)), hi]
    · rw [if_neg (fun z => by have := (ofl _ (by omega) i (by omega)).mp z; omega), addsub, isOpenC2 hV hC hk (by omega) (by omega), bnd_s, if_bi, ofs _ (by omega) i (by omega), nI_1]
      by_cases ho : sOpen w k (h + i + 24 - w 3) = true
      · rw [if_pos ho]
        have e : sCnt w k h (i + 1) = sCnt w k h i + 1 := by show sCnt w k h i + (if _ then 1 else 0) = _; rw [if_pos ho]
        rw [← e]
        exact arC hV hC hk hh n (i + 1) (by omega) (by omega)
      · rw [if_neg ho]
        have e : sCnt w k h (i + 1) = sCnt w k h i := by show sCnt w k h i + (if _ then 1 else 0) = _; rw [if_neg ho]; rfl
        rw [← e]
        exact arC hV hC hk hh n (i + 1) (by omega) (by omega)
theorem addz (x : Int32) : x + 0 = x := Int32.add_zero x
theorem arM {w : Nat → Nat} {v : Ob} (hV : WV w) (hM : WM w (v 1)) {k h : Nat} (hk : k < w 0) (hh : h < 24) : ∀ n i, 2 * w 3 + 1 < i + n → i ≤ 2 * w 3 + 1 → m_X6_openBy_L11 v n (nI k) (nI h) (nI (sCnt w k h i)) (nI i - nI (w 3)) = some (nI (sCnt w k h (2 * w 3 + 1)))
  | 0, i, a, b => by omega
  | n + 1, i, a, b => by
    have h6 := hV.2.2.2.1
    show m_X6_openBy_L11B v (m_X6_openBy_L11 v n) (nI k) (nI h) _ _ = _
    unfold m_X6_openBy_L11B m_X6_openBy_j46
    rw [c3, hM.2.2.2.1]
    by_cases hi : i = 2 * w 3 + 1
    · rw [if_pos ((ofl _ (by omega) i (by omega)).mpr (by omega)), hi]
    · obtain ⟨-, hg, -, -⟩ := hV.2.2.2.2.1 k hk
      rw [if_neg (fun z => by have := (ofl _ (by omega) i (by omega)).mp z; omega), addsub, ofr _ (by omega) _ (by omega), isOpenM hV hM hk (Nat.mod_lt _ (by omega)), sOpen_day hg, bnd_s, if_bi, ofs _ (by omega) i (by omega), addz, nI_1]
      by_cases ho : sOpen w k (h + i + 24 - w 3) = true
      · rw [if_pos ho]
        have e : sCnt w k h (i + 1) = sCnt w k h i + 1 := by show sCnt w k h i + (if _ then 1 else 0) = _; rw [if_pos ho]
        rw [← e]
        exact arM hV hM hk hh n (i + 1) (by omega) (by omega)
      · rw [if_neg ho]
        have e : sCnt w k h (i + 1) = sCnt w k h i := by show sCnt w k h i + (if _ then 1 else 0) = _; rw [if_neg ho]; rfl
        rw [← e]
        exact arM hV hM hk hh n (i + 1) (by omega) (by omega)
theorem aroundC {w : Nat → Nat} {v : Ob} (hV : WV w) (hC : WC w v) {k h : Nat} (hk : k < w 0) (hh : h < 24) : m_X4_openAround v (nI k) (nI h) = some (nI (sCnt w k h (2 * w 3 + 1))) := by
  have h6 := hV.2.2.2.1
  unfold m_X4_openAround
  have e := arC hV hC hk hh FU 0 (show 2 * w 3 + 1 < 0 + 1000 by omega) (by omega)
  rw [show sCnt w k h 0 = 0 from rfl, show nI 0 = (0 : Int32) from rfl] at e
  rw [hC.2.2.2.1, of0 _ (by omega), show nI 0 = (0 : Int32) from rfl, e, bnd_s]
theorem aroundM {w : Nat → Nat} {v : Ob} (hV : WV w) (hM : WM w (v 1)) {k h : Nat} (hk : k < w 0) (hh : h < 24) : m_X6_openBy v (nI k) (nI h) = some (nI (sCnt w k h (2 * w 3 + 1))) := by
  have h6 := hV.2.2.2.1
  unfold m_X6_openBy
  have e := arM hV hM hk hh FU 0 (show 2 * w 3 + 1 < 0 + 1000 by omega) (by omega)
  rw [show sCnt w k h 0 = 0 from rfl, show nI 0 = (0 : Int32) from rfl] at e
  rw [c3, hM.2.2.2.1, of0 _ (by omega), show nI 0 = (0 : Int32) from rfl, e, bnd_s]
theorem two_off {o : Nat} : (2 : Int32) * nI o + 1 = nI (2 * o + 1) := by rw [show (2 : Int32) = nI 2 from rfl, pk_mul, nI_1]
theorem ls_15 (K : (Nat → Nat) → Ob → Prop) : LS15 (Inv K) := by
  intro j vX vR vY vC vW vD vS vI vJ vT vM uT hj hI y1 y2
  obtain ⟨hT, ⟨w, ⟨hV, hWC, hWM, hco⟩, hS, hi1, hi2, hK⟩, hC, ht⟩ := id hI
  have h7 := hV.1
  have h6 := hV.2.2.2.1
  unfold m_X5_sure m_X6_sure
  rcases is_or y1 (w 0) (by omega) with ⟨k, hk, rfl⟩ | hb
  · rw [hasPlace_y hV hWC hk, isPlace_y hV hWM hk, bnd_s, bnd_s, if1, if1, pw_isWithin, pw_in, bnd_s, bnd_s, if_bi, if_bi, Int32.toInt_toInt64, show (0 : Int32).toInt = 0 by decide, show (23 : Int32).toInt = 23 by decide, show (0 : Int64).toInt = 0 by decide, show (23 : Int64).toInt = 23 by decide]
    rcases is_or y2 24 (by omega) with ⟨h, hh, rfl⟩ | hb
    · have hp : 0 ≤ (nI h).toInt ∧ (nI h).toInt ≤ 23 := by rw [nI_toInt (by omega)]; omega
      rw [if_pos hp, if_pos hp, aroundC hV hWC hk hh, aroundM hV hWM hk hh, bnd_s, bnd_s]
      unfold m_X4_hoursAround
      rw [bnd_s, hWC.2.2.2.1, c3, hWM.2.2.2.1]
      split
      · exact ⟨_, _, rfl, rfl, rfl, hI.same⟩
      · exact ⟨_, _, rfl, rfl, rfl, hI.same⟩
    · rw [if_neg (by omega), if_neg (by omega)]
      exact ⟨_, _, rfl, rfl, rfl, hI.same⟩
  · rw [hasPlace_n hV hWC hb, isPlace_n hV hWM hb, bnd_s, bnd_s, if0, if0]
    exact ⟨_, _, rfl, rfl, rfl, hI.same⟩
theorem gcdC : ∀ a, a < 14 → ∀ b, b < 14 → 0 < b → m_X5_greatestDivisor (nI a) (nI b) = some (nI (Nat.gcd a b)) := by decide +kernel
theorem gcdM (vM : Ob) (x3 A B : Int32) : ∀ n x y, x < 2 ^ 31 → y < n → y < 2 ^ 31 → m_X6_odds_L57 vM n x3 A B (nI x) (nI y) = some (x3, A, B, nI (Nat.gcd x y))
  | 0, x, y, hx, h, hy => by omega
  | n + 1, x, y, hx, h, hy => by
    show m_X6_odds_L57B vM (m_X6_odds_L57 vM n) x3 A B (nI x) (nI y) = _
    unfold m_X6_odds_L57B
    by_cases h0 : y = 0
    · subst h0; rw [if_pos (show nI 0 = 0 from rfl), Nat.gcd_zero_right]
    · have hne : ¬ nI y = 0 := nI_ne0 (by omega) hy
      have hlt := Nat.mod_lt x (show 0 < y by omega)
      rw [if_neg hne, grd_t (decide_eq_true hne), rem_nI hx (by omega) hy, gcdM vM x3 A B n y (x % y) hy (by omega) (by omega), Nat.gcd_comm x y, Nat.gcd_rec y x, Nat.gcd_comm (x % y) y]
theorem ls_16 (K : (Nat → Nat) → Ob → Prop) : LS16 (Inv K) := by
  intro j vX vR vY vC vW vD vS vI vJ vT vM uT hj hI y1 y2 y3
  obtain ⟨hT, ⟨w, ⟨hV, hWC, hWM, hco⟩, hS, hi1, hi2, hK⟩, hC, ht⟩ := id hI
  have h7 := hV.1
  have h6 := hV.2.2.2.1
  unfold m_X5_odds m_X6_odds
  rcases is_or y1 (w 0) (by omega) with ⟨k, hk, rfl⟩ | hb
  · rw [hasPlace_y hV hWC hk, isPlace_y hV hWM hk, bnd_s, bnd_s, if1, if1, pw_isWithin, pw_in, bnd_s, bnd_s, if_bi, if_bi, Int32.toInt_toInt64, show (0 : Int32).toInt = 0 by decide, show (23 : Int32).toInt = 23 by decide, show (0 : Int64).toInt = 0 by decide, show (23 : Int64).toInt = 23 by decide]
    rcases is_or y2 24 (by omega) with ⟨h, hh, rfl⟩ | hb
    · have hp : 0 ≤ (nI h).toInt ∧ (nI h).toInt ≤ 23 := by rw [nI_toInt (by omega)]; omega
      rw [if_pos hp, if_pos hp, pw_isWithin, isTwoM, bnd_s, bnd_s, if_bi, if_bi, show (0 : Int32).toInt = 0 by decide, show (1 : Int32).toInt = 1 by decide]
      rcases is_or y3 2 (by omega) with ⟨t, ht2, rfl⟩ | hb
      · have hp : 0 ≤ (nI t).toInt ∧ (nI t).toInt ≤ 1 := by rw [nI_toInt (by omega)]; omega
        have hc := sCnt_le w k h (2 * w 3 + 1)
        have hg : Nat.gcd (sCnt w k h (2 * w 3 + 1)) (2 * w 3 + 1) ≠ 0 := fun z => by have := Nat.eq_zero_of_gcd_eq_zero_right z; omega
        have hgl : Nat.gcd (sCnt w k h (2 * w 3 + 1)) (2 * w 3 + 1) ≤ 2 * w 3 + 1 := Nat.gcd_le_right _ (by omega)
        have hne : ¬ nI (Nat.gcd (sCnt w k h (2 * w 3 + 1)) (2 * w 3 + 1)) = 0 := nI_ne0 (by omega) (by omega)
        unfold m_X4_hoursAround m_X5_odds_j79
        rw [if_pos hp, if_pos hp, aroundC hV hWC hk hh, aroundM hV hWM hk hh, bnd_s, bnd_s, bnd_s, hWC.2.2.2.1, c3, hWM.2.2.2.1, two_off, gcdC _ (by omega) _ (by omega) (by omega), bnd_s, gcdM vM (nI t) _ _ FU _ _ (by omega) (show 2 * w 3 + 1 < 1000 by omega) (by omega), bnd_s, if_neg hne, grd_t (decide_eq_true hne), grd_t (decide_eq_true hne)]
        by_cases ht0 : nI t = 0
        · exact ⟨_, _, if_pos ht0, if_pos ht0, rfl, hI.same⟩
        · exact ⟨_, _, if_neg ht0, if_neg ht0, rfl, hI.same⟩
      · rw [if_neg (by omega), if_neg (by omega)]
        exact ⟨_, _, rfl, rfl, rfl, hI.same⟩
    · rw [if_neg (by omega), if_neg (by omega)]
      exact ⟨_, _, rfl, rfl, rfl, hI.same⟩
  · rw [hasPlace_n hV hWC hb, isPlace_n hV hWM hb, bnd_s, bnd_s, if0, if0]
    exact ⟨_, _, rfl, rfl, rfl, hI.same⟩
