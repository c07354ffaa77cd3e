section
/-! PURE: the reference's fewest hours; latest -/
theorem half_small : ∀ a, a < 121 → nI a / 2 = nI (a / 2) := by decide +kernel
theorem CB_dn {w : Nat → Nat} (h0 : 0 < w 0) {H nr nh p0 s0 t e e' : Nat} (h : CB w H nr nh t e 0 p0 s0) (hle : e ≤ e') : CB w H nr nh t e' 0 p0 s0 := by
  have := CB_up h0 h (e' - e)
  rwa [show e + (e' - e) = e' by omega] at this
theorem fewB {w : Nat → Nat} (hV : WV w) {nr nh H p0 s0 : Nat} {V : Ob} (hR : RN w nr nh H p0 s0 V) (hp : p0 < w 0) {t : Nat} (ht : t < 5) : ∀ (n lo hi : Nat) (m : Nat → Int32), hi - lo < n → lo ≤ hi → hi ≤ 60 → CB w H nr nh t hi 0 p0 s0 → (∀ e, e < lo → ¬ CB w H nr nh t e 0 p0 s0) →
    ∃ (m' : Nat → Int32) (e : Nat), e ≤ 60 ∧ m_X6_fewest_L27 n (upR V 18 m) (nI t) (nI lo) (nI hi) = some (upR V 18 m', nI t, nI e) ∧ CB w H nr nh t e 0 p0 s0 ∧ ∀ e', e' < e → ¬ CB w H nr nh t e' 0 p0 s0
  | 0, lo, hi, m, hn, _, _, _, _ => by omega
  | n + 1, lo, hi, m, hn, hlh, h60, hc, hno => by
    have hdef : m_X6_fewest_L27 (n + 1) (upR V 18 m) (nI t) (nI lo) (nI hi) = m_X6_fewest_L27B (m_X6_fewest_L27 n) (upR V 18 m) (nI t) (nI lo) (nI hi) := rfl
    rw [hdef]
    unfold m_X6_fewest_L27B m_X6_fewest_j61 m_X6_fewest_j73
    by_cases hlt : lo < hi
    · rw [if_neg (nI_ge hlt (by omega)), nI_add, half_small _ (by omega)]
      obtain ⟨m1, b, q1, q2⟩ := isWayM hV (hR.up m) hp ht (E := (lo + hi) / 2) (by omega)
      rw [q1, bnd_s]
      dsimp only
      rw [upR_upR, nI_1]
      cases b with
      | true =>
        have hb := q2.mp rfl
        rw [if_neg (by decide), if_neg (by decide)]
        exact fewB hV hR hp ht n lo ((lo + hi) / 2) m1 (by omega) (by omega) (by omega) hb hno
      | false =>
        have hb : ¬ CB w H nr nh t ((lo + hi) / 2) 0 p0 s0 := fun z => by have := q2.mpr z; cases this
        rw [if_pos (by decide), if_pos (by decide)]
        exact fewB hV hR hp ht n ((lo + hi) / 2 + 1) hi m1 (by omega) (by omega) (by omega) hc (fun e he z => hb (CB_dn (by omega) z (by omega)))
    · rw [if_pos (nI_le (by omega) (by omega))]
      have : lo = hi := by omega
      subst this
      exact ⟨m, lo, h60, rfl, hc, hno⟩
theorem fewestM {w : Nat → Nat} (hV : WV w) {nr nh H p0 s0 : Nat} {V : Ob} (hR : RN w nr nh H p0 s0 V) (hp : p0 < w 0) {t : Nat} (ht : t < 5) : ∃ m, (m_X6_fewest V (nI t) = some (-9, upR V 18 m) ∧ ∀ e, e ≤ 60 → ¬ CB w H nr nh t e 0 p0 s0) ∨ (∃ e, e ≤ 60 ∧ m_X6_fewest V (nI t) = some (nI e, upR V 18 m) ∧ CB w H nr nh t e 0 p0 s0 ∧ (∀ e', e' < e → ¬ CB w H nr nh t e' 0 p0 s0) ∧ ∀ k p s, k ≤ e → p < w 0 → s < 32 → (MB m k p s = true ↔ CB w H nr nh t e k p s)) := by
  have h7 := hV.1
  unfold m_X6_fewest
  rw [c0, hR.1.1, if_neg (nI_ne0 (by omega) (by omega))]
  obtain ⟨m1, b, q1, q2⟩ := isWayM hV hR hp ht (E := 60) (by omega)
  have q1' : m_X6_isWay V (nI t) 60 = _ := q1
  rw [q1', bnd_s]
  dsimp only
  cases b with
  | false =>
    rw [if_pos (by decide)]
    refine ⟨m1, Or.inl ⟨rfl, fun e he z => ?_⟩⟩
    have := q2.mpr (CB_dn (by omega) z he)
    cases this
  | true =>
    rw [if_neg (by decide)]
    obtain ⟨m2, e, a1, a2, a3, a4⟩ := fewB hV hR hp ht FU 0 60 m1 (by unfold FU; omega) (by omega) (by omega) (q2.mp rfl) (fun e he => by omega)
    have a2' : m_X6_fewest_L27 FU (upR V 18 m1) (nI t) 0 60 = _ := a2
    rw [a2', bnd_s]
    dsimp only
    obtain ⟨m3, d1, d2⟩ := layM hV (hR.up m2) ht a1
    rw [d1, bnd_s, upR_upR]
    exact ⟨m3, Or.inr ⟨e, a1, rfl, a3, a4, d2⟩⟩
/-- what the ways leave alone of the reference -/
def FrM (v v' : Ob) : Prop := v' 1 = v 1 ∧ v' 3 = v 3 ∧ v' 4 = v 4 ∧ v' 5 = v 5 ∧ v' 6 = v 6 ∧ v' 8 = v 8 ∧ v' 10 = v 10 ∧ v' 0 6 = v 0 6 ∧ v' 0 8 = v 0 8 ∧ v' 0 10 = v 0 10
theorem FrM.rfl' (v : Ob) : FrM v v := ⟨rfl, rfl, rfl, rfl, rfl, rfl, rfl, rfl, rfl, rfl⟩
theorem FrM.tr {a b c : Ob} (h : FrM a b) (g : FrM b c) : FrM a c := by
  obtain ⟨h1, h2, h3, h4, h5, h6, h7, h8, h9, h10⟩ := h
  obtain ⟨g1, g2, g3, g4, g5, g6, g7, g8, g9, g10⟩ := g
  exact ⟨g1.trans h1, g2.trans h2, g3.trans h3, g4.trans h4, g5.trans h5, g6.trans h6, g7.trans h7, g8.trans h8, g9.trans h9, g10.trans h10⟩
theorem FrM.rw (v : Ob) {r : Nat} (hr : 11 ≤ r) (f : Nat → Int32) : FrM v (upR v r f) := by
  unfold FrM
  rw [upR_ne _ _ (by omega), upR_ne _ _ (by omega), upR_ne _ _ (by omega), upR_ne _ _ (by omega), upR_ne _ _ (by omega), upR_ne _ _ (by omega), upR_ne _ _ (by omega), upR_ne _ _ (by omega)]
  exact FrM.rfl' v
theorem FrM.s0 (v : Ob) {c : Nat} (hc : 11 ≤ c) (x : Int32) : FrM v (st v 0 c x) := by
  unfold FrM
  rw [st_row_ne _ _ _ (by omega), st_row_ne _ _ _ (by omega), st_row_ne _ _ _ (by omega), st_row_ne _ _ _ (by omega), st_row_ne _ _ _ (by omega), st_row_ne _ _ _ (by omega), st_row_ne _ _ _ (by omega), st_row_eq, upd_ne _ _ (by omega), upd_ne _ _ (by omega), upd_ne _ _ (by omega)]
  exact FrM.rfl' v
theorem FrM.sr (v : Ob) {r : Nat} (hr : 11 ≤ r) (c : Nat) (x : Int32) : FrM v (st v r c x) := by
  rw [st_as]; exact FrM.rw v hr _
theorem Inv.fr {K : (Nat → Nat) → Ob → Prop} {j : Nat} {vX vR vY vC vW vD vS vI vJ vY' : Ob} {vT : Int64} {vM vM' : Ob} {uT : Int64} (h : Inv K j vX vR vY vC vW vD vS vI vJ vT vM uT) (hf : FrM vM vM') (hK : ∀ w, IW j w vW vM → IS w vS vM → K w vY → K w vY') : Inv K (j + 1) vX vR vY' vC vW vD vS vI vJ vT vM' uT := by
  obtain ⟨f1, f3, f4, f5, f6, f8, f10, g6, g8, g10⟩ := hf
  obtain ⟨a, ⟨w, b1, b2, b3, b4, b5⟩, c, d⟩ := h
  exact ⟨a.up g6 f6, IM.up ⟨w, b1, b2, b3, b4, hK w b1 b2 b5⟩ f1 f3 f4 f5, c.up g8 g10 f8 f10, d⟩
theorem no0 {w : Nat → Nat} (hV : WV w) (h0 : w 0 = 0) {H nr nh t e k p : Nat} : ¬ CB w H nr nh t e k p 0 := by
  intro h
  rcases CB_cases h with ⟨-, -, z⟩ | ⟨σ, k', p', s', z, -⟩
  · rw [Nat.zero_testBit] at z; cases z
  · have := (Sp_in hV (by omega) z).1
    omega
theorem gifts0 {w : Nat → Nat} (hV : WV w) (h0 : w 0 = 0) : gifts w (w 2) = 0 := by
  have h2 : w 2 = 0 := by
    rcases Nat.eq_zero_or_pos (w 2) with z | z
    · exact z
    · have := (hV.2.2.2.2.2.2.2 0 z).1; omega
  rw [h2]; rfl
def WA (vM : Ob) : Ob := st (st vM 0 18 (-1 : Int32)) 0 19 (-1 : Int32)
theorem WA_RN {w z : Nat → Nat} {vM : Ob} (hM : WM w (vM 1)) (hz : SM z (vM 3) 0) (hm : MV w (z 0) (z 1) (z 2)) (h7 : w 0 ≤ 7) : RN w 99 99 (z 1) (z 0) (z 2) (WA vM) := by
  unfold RN WA
  rw [st_row_ne _ _ _ (by omega), st_row_ne _ _ _ (by omega), st_row_eq, upd_ne _ _ (by omega), upd_eq, st_row_eq, upd_eq, st_row_ne _ _ _ (by omega), st_row_ne _ _ _ (by omega)]
  exact ⟨hM, rfl, rfl, hz.1, hz.2.1, hz.2.2.1, hm.2.1, by have := hm.1; omega, hm.2.2.1⟩
theorem WA_Fr (vM : Ob) : FrM vM (WA vM) := (FrM.s0 _ (by omega) _).tr (FrM.s0 _ (by omega) _)
theorem latL {w : Nat → Nat} {nr nh H p0 s0 : Nat} {v : Ob} (hR : RN w nr nh H p0 s0 v) (hp : p0 < w 0) {t E : Nat} (hE : E ≤ 60) (hm : ∀ k p s, k ≤ E → p < w 0 → s < 32 → (MB (v 18) k p s = true ↔ CB w H nr nh t E k p s)) : ∀ (n i : Nat), i ≤ E + 1 → i < n →
    (∃ e, e < i ∧ CB w H nr nh t E e p0 s0 ∧ (∀ e', e < e' → e' < i → ¬ CB w H nr nh t E e' p0 s0) ∧ m_X6_latest_L45 n v (dI i) = some (Sum.inl (nI e, v))) ∨ ((∀ e, e < i → ¬ CB w H nr nh t E e p0 s0) ∧ m_X6_latest_L45 n v (dI i) = some (Sum.inr v))
  | 0, i, hi, hn => by omega
  | n + 1, i, hi, hn => by
    have hdef : m_X6_latest_L45 (n + 1) v (dI i) = m_X6_latest_L45B (m_X6_latest_L45 n) v (dI i) := rfl
    rw [hdef]
    unfold m_X6_latest_L45B
    cases i with
    | zero => rw [if_pos dI_0]; exact Or.inr ⟨fun e he => by omega, rfl⟩
    | succ e =>
      rw [dI_s, if_neg (nI_pos (by omega)), c0, c2, hR.2.2.2.1, hR.2.2.2.2.2.1, canBe_e v (by omega) hR.2.2.2.2.2.2.2.1 hR.2.2.2.2.2.2.2.2, bnd_s, if_bi, dI_dn]
      by_cases hc : CB w H nr nh t E e p0 s0
      · rw [if_pos ((hm e p0 s0 (by omega) hp hR.2.2.2.2.2.2.2.2).mpr hc)]
        exact Or.inl ⟨e, by omega, hc, fun e' h1 h2 => by omega, rfl⟩
      · rw [if_neg (fun z => hc ((hm e p0 s0 (by omega) hp hR.2.2.2.2.2.2.2.2).mp z))]
        rcases latL hR hp hE hm n e (by omega) (by omega) with ⟨e1, h1, h2, h3, h4⟩ | ⟨h1, h2⟩
        · refine Or.inl ⟨e1, by omega, h2, fun e' q1 q2 => ?_, h4⟩
          by_cases he : e' = e
          · subst he; exact hc
          · exact h3 e' q1 (by omega)
        · refine Or.inr ⟨fun e' q => ?_, h2⟩
          by_cases he : e' = e
          · subst he; exact hc
          · exact h1 e' (by omega)
theorem thing_or (y : Int32) : (∃ t, t < 5 ∧ y = nI t) ∨ ¬ (0 ≤ y.toInt ∧ y.toInt < 5) := by
  rcases is_or y 5 (by omega) with h | h
  · exact Or.inl h
  · exact Or.inr (by omega)
theorem ls_12 (K : (Nat → Nat) → Ob → Prop) (hK3 : ∀ w v g, K w v → K w (upR v 3 g)) : LS12 (Inv K) := by
  intro j vX vR vY vC vW vD vS vI vJ vT vM uT hj hI y1 y2
  obtain ⟨-, ⟨w, ⟨hV, hWC, hWM, hcost⟩, ⟨z, hSV, hSC, hSM⟩, -, -, hk⟩, -, -⟩ := id hI
  have h7 := hV.1
  unfold m_X5_latest m_X6_latest
  rw [pw_isThing, pr_isThing, bnd_s, bnd_s, if_bi, if_bi, pw_isWithin, bnd_s, if_bi, pw_in, bnd_s, if_bi, Int32.toInt_toInt64, show (0 : Int32).toInt = 0 by decide, show (60 : Int32).toInt = 60 by decide, show (0 : Int64).toInt = 0 by decide, show (60 : Int64).toInt = 60 by decide]
  rcases thing_or y1 with ⟨t, ht, rfl⟩ | hb
  · have ht' : 0 ≤ (nI t).toInt ∧ (nI t).toInt < 5 := by rw [nI_toInt (by omega)]; omega
    rw [if_pos ht', if_pos ht']
    rcases is_or y2 61 (by omega) with ⟨E, hE, rfl⟩ | hb
    · have hE' : 0 ≤ (nI E).toInt ∧ (nI E).toInt ≤ 60 := by rw [nI_toInt (by omega)]; omega
      rw [if_pos hE', if_pos hE']
      have hm := hSV.1
      have hp7 : z 0 < 7 ∨ (w 0 = 0 ∧ z 0 = 0) := by have := hm.1; omega
      have hp7' : z 0 < 7 := by omega
      obtain ⟨g, hg⟩ := mostC hV hWC vY (H := z 1) (t := t) (E := E) hm.2.1 hSC.1 hSC.2.1 hSC.2.2.1 hp7' hm.2.2.1 (by omega) ht
      rw [c0, hWM.1]
      by_cases h0 : w 0 = 0
      · rw [if_pos (by rw [h0]; rfl)]
        have hz2 : z 2 = 0 := by rw [← hm.2.2.2, gifts0 hV h0, Nat.and_zero]
        rcases hg with ⟨e, -, z2, -⟩ | ⟨z1, z2⟩
        · rw [hz2] at z2; exact absurd z2 (no0 hV h0)
        · rw [z2, bnd_s]
          exact ⟨_, _, rfl, rfl, rfl, hI.fr (FrM.rfl' _) (fun w _ _ q => hK3 w _ _ q)⟩
      · have hp : z 0 < w 0 := by have := hm.1; omega
        rw [if_neg (nI_ne0 (by omega) (by omega))]
        have hR := WA_RN hWM hSM hm h7
        obtain ⟨m, q1, q2⟩ := layM hV hR ht (E := E) (by omega)
        have q1' : m_X6_layWays (st (st vM 0 18 (-1)) 0 19 (-1)) (nI t) (nI E) = some (upR (WA vM) 18 m) := q1
        unfold m_X6_withAll
        rw [bnd_s, q1', bnd_s]
        have hfr : FrM vM (upR (WA vM) 18 m) := (WA_Fr vM).tr (FrM.rw _ (by omega) _)
        have hL := latL (hR.up m) hp (t := t) (E := E) (by omega) (by rw [upR_eq]; exact q2) FU (E + 1) (by omega) (by unfold FU; omega)
        rw [dI_s] at hL
        rcases hg with ⟨e, a1, a2, a3, a4⟩ | ⟨a1, a2⟩
        · rcases hL with ⟨e1, b1, b2, b3, b4⟩ | ⟨b1, b2⟩
          · have : e = e1 := by
              rcases Nat.lt_trichotomy e e1 with h | h | h
              · exact absurd b2 (a3 e1 h (by omega))
              · exact h
              · exact absurd a2 (b3 e h (by omega))
            subst this
            rw [a4, bnd_s, b4, bnd_s, sm_l]
            exact ⟨_, _, rfl, rfl, rfl, hI.fr hfr (fun w _ _ q => hK3 w _ _ q)⟩
          · exact absurd a2 (b1 e (by omega))
        · rcases hL with ⟨e1, b1, b2, b3, b4⟩ | ⟨b1, b2⟩
          · exact absurd b2 (a1 e1 (by omega))
          · rw [a2, bnd_s, b2, bnd_s, sm_r]
            exact ⟨_, _, rfl, rfl, rfl, hI.fr hfr (fun w _ _ q => hK3 w _ _ q)⟩
    · rw [if_neg (by omega), if_neg (by omega)]
      exact ⟨_, _, rfl, rfl, rfl, hI.same⟩
  · rw [if_neg hb, if_neg hb]
    exact ⟨_, _, rfl, rfl, rfl, hI.same⟩
end
