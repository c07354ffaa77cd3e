section
/-! PURE: without -/
theorem Sp_noR {w : Nat → Nat} {H σ k p s k' p' s' r : Nat} (h : Sp w H 99 99 σ k p s k' p' s') (hne : σ ≠ 1 + r) : Sp w H r 99 σ k p s k' p' s' := by
  rcases h with h | ⟨r', h1, h2, h3, h4, h5⟩ | h
  · exact Or.inl h
  · exact Or.inr (Or.inl ⟨r', h1, h2, by omega, h4, h5⟩)
  · exact Or.inr (Or.inr h)
theorem Sp_noH {w : Nat → Nat} {H σ k p s k' p' s' g : Nat} (h : Sp w H 99 99 σ k p s k' p' s') (hne : σ ≠ 11 + g) : Sp w H 99 g σ k p s k' p' s' := by
  rcases h with h | h | ⟨g', h1, h2, h3, h4⟩
  · exact Or.inl h
  · exact Or.inr (Or.inl h)
  · exact Or.inr (Or.inr ⟨g', h1, h2, by omega, h4⟩)
theorem wy_no {w : Nat → Nat} {H t e p0 s0 n nr nh : Nat} {σ K P S : Nat → Nat} (hW : Wy w H t e p0 s0 n σ K P S) (h : ∀ i, i < n → Sp w H nr nh (σ i) (K i) (P i) (S i) (K (i + 1)) (P (i + 1)) (S (i + 1))) : CB w H nr nh t e 0 p0 s0 := by
  have key : ∀ d, d ≤ n → CB w H nr nh t e (K (n - d)) (P (n - d)) (S (n - d)) := by
    intro d
    induction d with
    | zero =>
      intro _
      obtain ⟨a, b, c⟩ := hW.2.2.1
      rw [Nat.sub_zero, a, b]
      exact .z c
    | succ d ih =>
      intro hd
      have h1 := h (n - (d + 1)) (by omega)
      rw [show n - (d + 1) + 1 = n - d by omega] at h1
      exact .c h1 (ih (by omega))
  have := key n (Nat.le_refl _)
  rwa [Nat.sub_self, hW.1.1, hW.1.2.1, hW.1.2.2] at this
theorem usedL {v : Ob} {n : Nat} {σ : Nat → Nat} (hn : n ≤ 100) (h5 : v 0 5 = nI n) (hst : ∀ i, i < n → v 5 i = nI (σ i)) (hσ : ∀ i, i < n → σ i < 32) : ∀ (f i : Nat) (x : Int32), i ≤ n → n - i < f → ∃ x', m_X3_usedSteps_L4 v f x (nI i) = some x' ∧ ∀ b, b < 32 → (bt x' b = true ↔ (bt x b = true ∨ ∃ j, i ≤ j ∧ j < n ∧ σ j = b))
  | 0, i, x, hi, hf => by omega
  | f + 1, i, x, hi, hf => by
    show ∃ x', m_X3_usedSteps_L4B v (m_X3_usedSteps_L4 v f) x (nI i) = some x' ∧ _
    unfold m_X3_usedSteps_L4B
    rw [h5]
    by_cases hlt : i < n
    · rw [if_neg (nI_ge hlt (by omega)), if_neg (by rw [show (125 : Int32) = nI 125 from rfl]; exact nI_ge (by omega) (by omega)), grd_t (inb_nI (by omega) (by omega)), cl (by omega), hst i hlt, nI_1]
      obtain ⟨x', q1, q2⟩ := usedL hn h5 hst hσ f (i + 1) (x ||| ((1 : Int32) <<< (nI (σ i) &&& 31))) (by omega) (by omega)
      refine ⟨x', q1, fun b hb => ?_⟩
      rw [q2 b hb, b_or, sh1s (hσ i hlt) b hb, Bool.or_eq_true, decide_eq_true_eq]
      constructor
      · rintro ((z | z) | ⟨j, z1, z2, z3⟩)
        · exact Or.inl z
        · exact Or.inr ⟨i, Nat.le_refl _, hlt, z.symm⟩
        · exact Or.inr ⟨j, by omega, z2, z3⟩
      · rintro (z | ⟨j, z1, z2, z3⟩)
        · exact Or.inl (Or.inl z)
        · by_cases hji : j = i
          · subst hji; exact Or.inl (Or.inr z3.symm)
          · exact Or.inr ⟨j, by omega, z2, z3⟩
    · rw [if_pos (nI_le (by omega) (by omega))]
      refine ⟨x, rfl, fun b hb => ⟨Or.inl, ?_⟩⟩
      rintro (z | ⟨j, z1, z2, -⟩)
      · exact z
      · omega
theorem usedC {v : Ob} {n : Nat} {σ : Nat → Nat} (hn : n ≤ 100) (h5 : v 0 5 = nI n) (hst : ∀ i, i < n → v 5 i = nI (σ i)) (hσ : ∀ i, i < n → σ i < 32) : ∃ u, m_X3_usedSteps v = some u ∧ ∀ b, b < 32 → (bt u b = true ↔ ∃ j, j < n ∧ σ j = b) := by
  obtain ⟨u, q1, q2⟩ := usedL hn h5 hst hσ FU 0 0 (by omega) (by unfold FU; omega)
  have q1' : m_X3_usedSteps_L4 v FU 0 0 = some u := q1
  refine ⟨u, by unfold m_X3_usedSteps; rw [q1', bnd_s], fun b hb => ?_⟩
  rw [q2 b hb, b_0]
  constructor
  · rintro (z | ⟨j, -, z2, z3⟩)
    · cases z
    · exact ⟨j, z2, z3⟩
  · rintro ⟨j, z2, z3⟩
    exact Or.inr ⟨j, Nat.zero_le _, z2, z3⟩
/-- no way of at most 60 hours -/
def NW (w : Nat → Nat) (H nr nh t p0 s0 : Nat) : Prop := ∀ e, e ≤ 60 → ¬ Hm w H nr nh p0 s0 t e
theorem roadsL {w z : Nat → Nat} {vW vS : Ob} (hV : WV w) (hC : WC w vW) (hm : MV w (z 0) (z 1) (z 2)) (hS0 : vS 0 0 = nI (z 0)) (hS1 : vS 0 1 = nI (z 1)) (hS2 : vS 0 2 = nI (z 2)) {t : Nat} (ht : t < 5) (u : Int32) : ∀ (f i : Nat) (V : Ob) (x : Int32), i ≤ w 1 → w 1 - i < f → V 0 7 = nI t →
    ∃ V' x', m_X3_neededRoads_L9 vW vS f V u x (nI i) = some (V', x') ∧ Kp V V' ∧ ∀ b, b < 32 → (bt x' b = true ↔ (bt x b = true ∨ (i ≤ b ∧ b < w 1 ∧ bt u (1 + b) = true ∧ NW w (z 1) b 99 t (z 0) (z 2))))
  | 0, i, V, x, hi, hf, _ => by omega
  | f + 1, i, V, x, hi, hf, h7t => by
    have h7 := hV.1
    have h9 := hV.2.1
    have hp7 : z 0 < 7 := by have := hm.1; omega
    show ∃ V' x', m_X3_neededRoads_L9B vW vS (m_X3_neededRoads_L9 vW vS f) V u x (nI i) = some (V', x') ∧ _
    unfold m_X3_neededRoads_L9B m_X3_neededRoads_j36 m_X3_neededRoads_j64
    rw [hC.2.1]
    by_cases hlt : i < w 1
    · rw [if_neg (nI_ge hlt (by omega)), show (1 : Int32) + nI i = nI (1 + i) from nI_add 1 i, nI_1]
      have skip : ∀ (V0 : Ob) (x0 : Int32), Kp V V0 → (∀ b, b < 32 → (bt x0 b = true ↔ (bt x b = true ∨ (b = i ∧ bt u (1 + i) = true ∧ NW w (z 1) i 99 t (z 0) (z 2))))) → ∃ V' x', m_X3_neededRoads_L9 vW vS f V0 u x0 (nI (i + 1)) = some (V', x') ∧ Kp V V' ∧ ∀ b, b < 32 → (bt x' b = true ↔ (bt x b = true ∨ (i ≤ b ∧ b < w 1 ∧ bt u (1 + b) = true ∧ NW w (z 1) b 99 t (z 0) (z 2)))) := by
        intro V0 x0 hk hx
        obtain ⟨V', x', q1, q2, q3⟩ := roadsL hV hC hm hS0 hS1 hS2 ht u f (i + 1) V0 x0 (by omega) (by omega) (by rw [hk.2 7 (by omega)]; exact h7t)
        refine ⟨V', x', q1, hk.tr q2, fun b hb => ?_⟩
        rw [q3 b hb, hx b hb]
        constructor
        · rintro ((y | ⟨y1, y2, y3⟩) | ⟨y1, y2, y3, y4⟩)
          · exact Or.inl y
          · subst y1; exact Or.inr ⟨Nat.le_refl _, hlt, y2, y3⟩
          · exact Or.inr ⟨by omega, y2, y3, y4⟩
        · rintro (y | ⟨y1, y2, y3, y4⟩)
          · exact Or.inl (Or.inl y)
          · by_cases hbi : b = i
            · subst hbi; exact Or.inl (Or.inr ⟨rfl, y3, y4⟩)
            · exact Or.inr ⟨by omega, y2, y3, y4⟩
      by_cases hu : bt u (1 + i) = true
      · rw [if_pos ((b_sshr0 u (by omega)).mpr hu), if_neg (by decide), h7t]
        obtain ⟨g, hg⟩ := fewest hV hC V i 99 (t := t) hm.2.1 hS0 hS1 hS2 hp7 hm.2.2.1 ht
        have hnb : nbI i = nI i := if_pos (by omega)
        rw [hnb] at hg
        rcases hg with ⟨e, g1, g2, g3, g4⟩ | ⟨g1, g2⟩
        · have g2' : m_X3_fewestHours V vW vS (nI t) (nI i) (-1) = _ := g2
          rw [g2', bnd_s]
          dsimp only
          rw [if_neg (nI_n9 (by omega))]
          refine skip _ _ (Kp.up V (by omega) (by omega) g) (fun b hb => ⟨Or.inl, ?_⟩)
          rintro (y | ⟨-, -, y⟩)
          · exact y
          · exact absurd g3 (y e g1)
        · have g1' : m_X3_fewestHours V vW vS (nI t) (nI i) (-1) = _ := g1
          rw [g1', bnd_s]
          dsimp only
          rw [if_pos rfl]
          refine skip _ _ (Kp.up V (by omega) (by omega) g) (fun b hb => ?_)
          rw [b_or, sh1s (by omega) b hb, Bool.or_eq_true, decide_eq_true_eq]
          constructor
          · rintro (y | y)
            · exact Or.inl y
            · exact Or.inr ⟨y, hu, g2⟩
          · rintro (y | ⟨y, -⟩)
            · exact Or.inl y
            · exact Or.inr y
      · rw [if_neg (fun q => hu ((b_sshr0 u (by omega)).mp q)), if_pos rfl]
        refine skip _ _ (Kp.rfl' V) (fun b hb => ⟨Or.inl, ?_⟩)
        rintro (y | ⟨-, y, -⟩)
        · exact y
        · exact absurd y hu
    · rw [if_pos (nI_le (by omega) (by omega))]
      refine ⟨V, x, rfl, Kp.rfl' V, fun b hb => ⟨Or.inl, ?_⟩⟩
      rintro (y | ⟨y1, y2, -⟩)
      · exact y
      · omega
theorem hostsL {w z : Nat → Nat} {vW vS : Ob} (hV : WV w) (hC : WC w vW) (hm : MV w (z 0) (z 1) (z 2)) (hS0 : vS 0 0 = nI (z 0)) (hS1 : vS 0 1 = nI (z 1)) (hS2 : vS 0 2 = nI (z 2)) {t : Nat} (ht : t < 5) (u : Int32) : ∀ (f i : Nat) (V : Ob) (x : Int32), i ≤ w 2 → w 2 - i < f → V 0 7 = nI t →
    ∃ V' x', m_X3_neededHosts_L9 vW vS f V u x (nI i) = some (V', x') ∧ Kp V V' ∧ ∀ b, b < 32 → (bt x' b = true ↔ (bt x b = true ∨ (i ≤ b ∧ b < w 2 ∧ bt u (11 + b) = true ∧ NW w (z 1) 99 b t (z 0) (z 2))))
  | 0, i, V, x, hi, hf, _ => by omega
  | f + 1, i, V, x, hi, hf, h7t => by
    have h7 := hV.1
    have h6 := hV.2.2.1
    have hp7 : z 0 < 7 := by have := hm.1; omega
    show ∃ V' x', m_X3_neededHosts_L9B vW vS (m_X3_neededHosts_L9 vW vS f) V u x (nI i) = some (V', x') ∧ _
    unfold m_X3_neededHosts_L9B m_X3_neededHosts_j37 m_X3_neededHosts_j65
    rw [hC.2.2.1]
    by_cases hlt : i < w 2
    · rw [if_neg (nI_ge hlt (by omega)), show (11 : Int32) + nI i = nI (11 + i) from nI_add 11 i, nI_1]
      have skip : ∀ (V0 : Ob) (x0 : Int32), Kp V V0 → (∀ b, b < 32 → (bt x0 b = true ↔ (bt x b = true ∨ (b = i ∧ bt u (11 + i) = true ∧ NW w (z 1) 99 i t (z 0) (z 2))))) → ∃ V' x', m_X3_neededHosts_L9 vW vS f V0 u x0 (nI (i + 1)) = some (V', x') ∧ Kp V V' ∧ ∀ b, b < 32 → (bt x' b = true ↔ (bt x b = true ∨ (i ≤ b ∧ b < w 2 ∧ bt u (11 + b) = true ∧ NW w (z 1) 99 b t (z 0) (z 2)))) := by
        intro V0 x0 hk hx
        obtain ⟨V', x', q1, q2, q3⟩ := hostsL hV hC hm hS0 hS1 hS2 ht u f (i + 1) V0 x0 (by omega) (by omega) (by rw [hk.2 7 (by omega)]; exact h7t)
        refine ⟨V', x', q1, hk.tr q2, fun b hb => ?_⟩
        rw [q3 b hb, hx b hb]
        constructor
        · rintro ((y | ⟨y1, y2, y3⟩) | ⟨y1, y2, y3, y4⟩)
          · exact Or.inl y
          · subst y1; exact Or.inr ⟨Nat.le_refl _, hlt, y2, y3⟩
          · exact Or.inr ⟨by omega, y2, y3, y4⟩
        · rintro (y | ⟨y1, y2, y3, y4⟩)
          · exact Or.inl (Or.inl y)
          · by_cases hbi : b = i
            · subst hbi; exact Or.inl (Or.inr ⟨rfl, y3, y4⟩)
            · exact Or.inr ⟨by omega, y2, y3, y4⟩
      by_cases hu : bt u (11 + i) = true
      · rw [if_pos ((b_sshr0 u (by omega)).mpr hu), if_neg (by decide), h7t]
        obtain ⟨g, hg⟩ := fewest hV hC V 99 i (t := t) hm.2.1 hS0 hS1 hS2 hp7 hm.2.2.1 ht
        have hnb : nbI i = nI i := if_pos (by omega)
        rw [hnb] at hg
        rcases hg with ⟨e, g1, g2, g3, g4⟩ | ⟨g1, g2⟩
        · have g2' : m_X3_fewestHours V vW vS (nI t) (-1) (nI i) = _ := g2
          rw [g2', bnd_s]
          dsimp only
          rw [if_neg (nI_n9 (by omega))]
          refine skip _ _ (Kp.up V (by omega) (by omega) g) (fun b hb => ⟨Or.inl, ?_⟩)
          rintro (y | ⟨-, -, y⟩)
          · exact y
          · exact absurd g3 (y e g1)
        · have g1' : m_X3_fewestHours V vW vS (nI t) (-1) (nI i) = _ := g1
          rw [g1', bnd_s]
          dsimp only
          rw [if_pos rfl]
          refine skip _ _ (Kp.up V (by omega) (by omega) g) (fun b hb => ?_)
          rw [b_or, sh1s (by omega) b hb, Bool.or_eq_true, decide_eq_true_eq]
          constructor
          · rintro (y | y)
            · exact Or.inl y
            · exact Or.inr ⟨y, hu, g2⟩
          · rintro (y | ⟨y, -⟩)
            · exact Or.inl y
            · exact Or.inr y
      · rw [if_neg (fun q => hu ((b_sshr0 u (by omega)).mp q)), if_pos rfl]
        refine skip _ _ (Kp.rfl' V) (fun b hb => ⟨Or.inl, ?_⟩)
        rintro (y | ⟨-, y, -⟩)
        · exact y
        · exact absurd y hu
    · rw [if_pos (nI_le (by omega) (by omega))]
      refine ⟨V, x, rfl, Kp.rfl' V, fun b hb => ⟨Or.inl, ?_⟩⟩
      rintro (y | ⟨y1, y2, -⟩)
      · exact y
      · omega
/-- the reference's own -/
def BNx (w : Nat → Nat) (H p0 s0 : Nat) (v : Ob) : Prop := WM w (v 1) ∧ v 3 0 = nI p0 ∧ v 3 1 = nI H ∧ v 3 2 = nI s0 ∧ H ≤ 9999 ∧ p0 < 7 ∧ s0 < 32
theorem BNx.fr {w : Nat → Nat} {H p0 s0 : Nat} {v v' : Ob} (h : BNx w H p0 s0 v) (f : FrM v v') : BNx w H p0 s0 v' := by
  unfold BNx
  rw [f.1, f.2.1]
  exact h
theorem withoutL {w : Nat → Nat} (hV : WV w) {H p0 s0 t c : Nat} (hp : p0 < w 0) (ht : t < 5) (hc : c < 2) : ∀ (f i : Nat) (v : Ob) (x : Int32), i ≤ w (1 + c) → w (1 + c) - i < f → BNx w H p0 s0 v →
    ∃ v' x', m_X6_without_L44 f v (nI t) (nI c) x (nI i) = some (v', x') ∧ FrM v v' ∧ ∀ b, b < 32 → (bt x' b = true ↔ (bt x b = true ∨ (i ≤ b ∧ b < w (1 + c) ∧ ¬ CB w H (if c = 0 then b else 99) (if c = 1 then b else 99) t 60 0 p0 s0)))
  | 0, i, v, x, hi, hf, _ => by omega
  | f + 1, i, v, x, hi, hf, hB => by
    have h9 := hV.2.1
    have h6 := hV.2.2.1
    have hw9 : w (1 + c) ≤ 9 := by
      rcases (show c = 0 ∨ c = 1 by omega) with q | q
      · subst q; exact h9
      · subst q; show w 2 ≤ 9; omega
    have hv : v 1 (1 + c) = nI (w (1 + c)) := by
      rcases (show c = 0 ∨ c = 1 by omega) with q | q
      · subst q; exact hB.1.2.1
      · subst q; exact hB.1.2.2.1
    show ∃ v' x', m_X6_without_L44B (m_X6_without_L44 f) v (nI t) (nI c) x (nI i) = some (v', x') ∧ _
    unfold m_X6_without_L44B m_X6_without_j68 m_X6_without_j83 m_X6_without_j105
    rw [show (1 : Int32) + nI c = nI (1 + c) from nI_add 1 c, grd_t (inb_nI (by omega) (by omega)), cl (by omega), hv]
    by_cases hlt : i < w (1 + c)
    · rw [if_neg (nI_ge hlt (by omega))]
      have step : ∀ a b : Int32, a = nbI (if c = 0 then i else 99) → b = nbI (if c = 1 then i else 99) → ∃ v' x', ((m_X6_isWay (st (st v 0 18 a) 0 19 b) (nI t) (60 : Int32)).bind fun o91 => if o91.1 = 0 then (m_X6_without_L44 f o91.2 (nI t) (nI c) (x ||| ((1 : Int32) <<< (nI i &&& 31))) (nI i + 1)) else (m_X6_without_L44 f o91.2 (nI t) (nI c) (x ||| 0) (nI i + 1))) = some (v', x') ∧ FrM v v' ∧ ∀ b, b < 32 → (bt x' b = true ↔ (bt x b = true ∨ (i ≤ b ∧ b < w (1 + c) ∧ ¬ CB w H (if c = 0 then b else 99) (if c = 1 then b else 99) t 60 0 p0 s0))) := by
        intro a b ha hb
        have hRN : RN w (if c = 0 then i else 99) (if c = 1 then i else 99) H p0 s0 (st (st v 0 18 a) 0 19 b) := by
          unfold RN
          rw [st_row_ne _ _ _ (by omega), st_row_ne _ _ _ (by omega), st_row_eq, upd_ne _ _ (by omega), upd_eq, st_row_eq, upd_eq, st_row_ne _ _ _ (by omega), st_row_ne _ _ _ (by omega)]
          obtain ⟨b1, b2, b3, b4, b5, b6, b7⟩ := hB
          exact ⟨b1, ha, hb, b2, b3, b4, b5, b6, b7⟩
        obtain ⟨m, bb, q1, q2⟩ := isWayM hV hRN hp ht (E := 60) (by omega)
        have q1' : m_X6_isWay (st (st v 0 18 a) 0 19 b) (nI t) 60 = _ := q1
        have hfr : FrM v (upR (st (st v 0 18 a) 0 19 b) 18 m) := ((FrM.s0 _ (by omega) _).tr (FrM.s0 _ (by omega) _)).tr (FrM.rw _ (by omega) _)
        rw [q1', bnd_s, nI_1]
        dsimp only
        have skip : ∀ x0 : Int32, (∀ b, b < 32 → (bt x0 b = true ↔ (bt x b = true ∨ (b = i ∧ bb = false)))) → ∃ v' x', m_X6_without_L44 f (upR (st (st v 0 18 a) 0 19 b) 18 m) (nI t) (nI c) x0 (nI (i + 1)) = some (v', x') ∧ FrM v v' ∧ ∀ b, b < 32 → (bt x' b = true ↔ (bt x b = true ∨ (i ≤ b ∧ b < w (1 + c) ∧ ¬ CB w H (if c = 0 then b else 99) (if c = 1 then b else 99) t 60 0 p0 s0))) := by
          intro x0 hx
          obtain ⟨v', x', g1, g2, g3⟩ := withoutL hV hp ht hc f (i + 1) _ x0 (by omega) (by omega) (hB.fr hfr)
          refine ⟨v', x', g1, hfr.tr g2, fun b hb => ?_⟩
          rw [g3 b hb, hx b hb]
          have hbb : bb = false ↔ ¬ CB w H (if c = 0 then i else 99) (if c = 1 then i else 99) t 60 0 p0 s0 := by
            rw [← q2]; cases bb <;> simp
          constructor
          · rintro ((y | ⟨y1, y2⟩) | ⟨y1, y2, y3⟩)
            · exact Or.inl y
            · subst y1; exact Or.inr ⟨Nat.le_refl _, hlt, hbb.mp y2⟩
            · exact Or.inr ⟨by omega, y2, y3⟩
          · rintro (y | ⟨y1, y2, y3⟩)
            · exact Or.inl (Or.inl y)
            · by_cases hbi : b = i
              · subst hbi; exact Or.inl (Or.inr ⟨rfl, hbb.mpr y3⟩)
              · exact Or.inr ⟨by omega, y2, y3⟩
        cases bb with
        | false =>
          rw [if_pos (by decide)]
          refine skip _ (fun b hb => ?_)
          rw [b_or, sh1s (by omega) b hb, Bool.or_eq_true, decide_eq_true_eq]
          simp
        | true =>
          rw [if_neg (by decide)]
          refine skip _ (fun b hb => ?_)
          rw [b_or, b_0, Bool.or_false]
          simp
      rcases (show c = 0 ∨ c = 1 by omega) with q | q
      · subst q
        rw [if_pos (show nI 0 = 0 from rfl), if_neg (show ¬ nI 0 = 1 by decide)]
        exact step (nI i) (-1) (by rw [if_pos rfl]; exact (if_pos (by omega)).symm) rfl
      · subst q
        rw [if_neg (show ¬ nI 1 = 0 by decide), if_pos (show nI 1 = 1 from rfl)]
        exact step (-1) (nI i) rfl (by rw [if_pos rfl]; exact (if_pos (by omega)).symm)
    · rw [if_pos (nI_le (by omega) (by omega))]
      refine ⟨v, x, rfl, FrM.rfl' v, fun b hb => ⟨Or.inl, ?_⟩⟩
      rintro (y | ⟨y1, y2, -⟩)
      · exact y
      · omega
theorem NW_iff {w : Nat → Nat} (h0 : 0 < w 0) {H nr nh t p0 s0 : Nat} : NW w H nr nh t p0 s0 ↔ ¬ CB w H nr nh t 60 0 p0 s0 := by
  constructor
  · intro h q; exact h 60 (by omega) (CB_iff.mp q)
  · intro h e he q; exact h (CB_dn h0 (CB_iff.mpr q) he)
theorem Sp_lt32 {w : Nat → Nat} (hV : WV w) {H nr nh σ k p s k' p' s' : Nat} (h : Sp w H nr nh σ k p s k' p' s') : σ < 32 := by
  have h9 := hV.2.1
  have h6 := hV.2.2.1
  rcases h with ⟨x1, -⟩ | ⟨r, x1, x2, -⟩ | ⟨g, x1, x2, -⟩ <;> omega
theorem ls_13 : LS13 (Inv WayOK) := by
  intro j vX vR vY vC vW vD vS vI vJ vT vM uT hj hI y1 y2
  obtain ⟨hIT, ⟨w, hIW, hIS, hII, hIJ, hk⟩, hIC, hvT⟩ := id hI
  obtain ⟨hV, hWC, hWM, hcost⟩ := id hIW
  obtain ⟨z, hSV, hSC, hSM⟩ := id hIS
  have h7 := hV.1
  have h9 := hV.2.1
  have h6 := hV.2.2.1
  have hm := hSV.1
  unfold m_X5_without m_X6_without m_X6_isTwo
  rw [pw_isThing, pr_isThing, bnd_s, bnd_s, if_bi, if_bi, pw_isWithin, bnd_s, if_bi, pw_in, bnd_s, grd_t (bz_bi _), bnd_s, if_bi, Int32.toInt_toInt64, show (0 : Int32).toInt = 0 by decide, show (1 : Int32).toInt = 1 by decide, show (0 : Int64).toInt = 0 by decide, show (1 : Int64).toInt = 1 by decide]
  rcases thing_or y1 with ⟨t, ht, rfl⟩ | hb
  · have ht' : 0 ≤ (nI t).toInt ∧ (nI t).toInt < 5 := by rw [nI_toInt (by omega)]; omega
    rw [if_pos ht', if_pos ht']
    rcases is_or y2 2 (by omega) with ⟨c, hc, rfl⟩ | hb
    · have hc' : 0 ≤ (nI c).toInt ∧ (nI c).toInt ≤ 1 := by rw [nI_toInt (by omega)]; omega
      rw [if_pos hc', if_pos hc']
      obtain ⟨v, v1, v2⟩ := findC hV hWC hm hSC.1 hSC.2.1 hSC.2.2.1 (by omega) hk ht
      have hok := v2.ok ht h7 hm
      have v7 := v2.1.1
      unfold m_X6_withAll
      rw [v1, bnd_s, bnd_s]
      have hR := WA_RN hWM hSM hm h7
      have hWA : st (st vM 0 18 (-1)) 0 19 (-1) = WA vM := rfl
      rw [hWA, c0, hR.1.1]
      -- the class's side
      have cls : ∀ (n : Nat) (σ : Nat → Nat), n ≤ 100 → v 0 5 = nI n → (∀ i, i < n → v 5 i = nI (σ i)) → (∀ i, i < n → σ i < 32) → ∃ V' x', (if nI c = 0 then ((m_X3_neededRoads v vW vS).bind fun o34 => some (o34.1, o34.2)) else ((m_X3_neededHosts v vW vS).bind fun o44 => some (o44.1, o44.2))) = some (x', V') ∧ Kp v V' ∧ ∀ b, b < 32 → (bt x' b = true ↔ (b < w (1 + c) ∧ (∃ i, i < n ∧ σ i = (if c = 0 then 1 + b else 11 + b)) ∧ NW w (z 1) (if c = 0 then b else 99) (if c = 1 then b else 99) t (z 0) (z 2))) := by
        intro n σ hn h5 hst hσ
        obtain ⟨u, u1, u2⟩ := usedC hn h5 hst hσ
        rcases (show c = 0 ∨ c = 1 by omega) with q | q
        · subst q
          rw [if_pos (show nI 0 = 0 from rfl)]
          obtain ⟨V', x', q1, q2, q3⟩ := roadsL hV hWC hm hSC.1 hSC.2.1 hSC.2.2.1 ht u FU 0 v 0 (by omega) (by unfold FU; omega) v7
          have q1' : m_X3_neededRoads_L9 vW vS FU v u 0 0 = _ := q1
          unfold m_X3_neededRoads
          rw [u1, bnd_s, q1', bnd_s, bnd_s]
          refine ⟨V', x', rfl, q2, fun b hb => ?_⟩
          rw [q3 b hb, b_0, if_pos rfl, if_pos rfl, if_neg (by decide)]
          constructor
          · rintro (y | ⟨-, y2, y3, y4⟩)
            · cases y
            · exact ⟨y2, (u2 _ (by omega)).mp y3, y4⟩
          · rintro ⟨y2, y3, y4⟩
            have y2' : b < w 1 := y2
            exact Or.inr ⟨Nat.zero_le _, y2, (u2 _ (by omega)).mpr y3, y4⟩
        · subst q
          rw [if_neg (show ¬ nI 1 = 0 by decide)]
          obtain ⟨V', x', q1, q2, q3⟩ := hostsL hV hWC hm hSC.1 hSC.2.1 hSC.2.2.1 ht u FU 0 v 0 (by omega) (by unfold FU; omega) v7
          have q1' : m_X3_neededHosts_L9 vW vS FU v u 0 0 = _ := q1
          unfold m_X3_neededHosts
          rw [u1, bnd_s, q1', bnd_s, bnd_s]
          refine ⟨V', x', rfl, q2, fun b hb => ?_⟩
          rw [q3 b hb, b_0, if_neg (by decide), if_neg (by decide), if_pos rfl]
          constructor
          · rintro (y | ⟨-, y2, y3, y4⟩)
            · cases y
            · exact ⟨y2, (u2 _ (by omega)).mp y3, y4⟩
          · rintro ⟨y2, y3, y4⟩
            have y2' : b < w 2 := y2
            exact Or.inr ⟨Nat.zero_le _, y2, (u2 _ (by omega)).mpr y3, y4⟩
      -- no way
      have none' : v 0 5 = nI 0 → ∃ V', (if nI c = 0 then ((m_X3_neededRoads v vW vS).bind fun o34 => some (o34.1, o34.2)) else ((m_X3_neededHosts v vW vS).bind fun o44 => some (o44.1, o44.2))) = some (0, V') ∧ Kp v V' := by
        intro h5
        obtain ⟨V', x', q1, q2, q3⟩ := cls 0 (fun _ => 0) (by omega) h5 (fun i hi => by omega) (fun i hi => by omega)
        have : x' = 0 := b_ext (fun b hb => by
          rw [b_0]
          cases hx : bt x' b with
          | false => rfl
          | true =>
            obtain ⟨-, ⟨i, hi, -⟩, -⟩ := (q3 b hb).mp hx
            omega)
        subst this
        exact ⟨V', q1, q2⟩
      by_cases h0 : w 0 = 0
      · rw [h0, if_pos (show nI 0 ≤ 0 by decide)]
        rcases both hV hWM hSM hm ht v2 with ⟨V', q1, q2, q3, q4, -⟩ | ⟨m, e, n, σ, K, P, S, q1, -⟩
        · obtain ⟨V2, g1, g2⟩ := none' q4
          rw [g1]
          exact ⟨_, _, rfl, rfl, rfl, Inv.mk' hIT hIW hIS hII hIJ hIC hvT (WA_Fr vM) (hok.kp g2)⟩
        · omega
      · have hp : z 0 < w 0 := by have := hm.1; omega
        rw [if_neg (show ¬ nI (w 0) ≤ 0 by rw [show (0 : Int32) = nI 0 from rfl]; exact nI_ge (by omega) (by omega))]
        obtain ⟨m, bb, q1, q2⟩ := isWayM hV hR hp ht (E := 60) (by omega)
        have q1' : m_X6_isWay (WA vM) (nI t) 60 = _ := q1
        have hfr : FrM vM (upR (WA vM) 18 m) := (WA_Fr vM).tr (FrM.rw _ (by omega) _)
        rw [q1', bnd_s]
        dsimp only
        rcases both hV hWM hSM hm ht v2 with ⟨V', a1, a2, a3, a4, a5⟩ | ⟨m', e, n, σ, K, P, S, a1, a2, a3, a4, a5, a6, a7, a8, a9, a10⟩
        · have hbb : bb = false := by
            cases bb with
            | false => rfl
            | true => exact absurd (q2.mp rfl) (a5 60 (by omega))
          obtain ⟨V2, g1, g2⟩ := none' a4
          rw [hbb, if_pos (show (if false = true then (1 : Int32) else 0) = 0 from rfl), g1]
          exact ⟨_, _, rfl, rfl, rfl, Inv.mk' hIT hIW hIS hII hIJ hIC hvT hfr (hok.kp g2)⟩
        · have hbb : bb = true := q2.mpr (CB_dn (by omega) a10 a2)
          rw [hbb, if_neg (show ¬ (if true = true then (1 : Int32) else 0) = 0 by decide)]
          have hBN : BNx w (z 1) (z 0) (z 2) (upR (WA vM) 18 m) := by
            obtain ⟨b1, -, -, b2, b3, b4, b5, b6, b7⟩ := hR.up m
            exact ⟨b1, b2, b3, b4, b5, b6, b7⟩
          have hw9 : w (1 + c) ≤ 9 := by
            rcases (show c = 0 ∨ c = 1 by omega) with q | q
            · subst q; exact h9
            · subst q; show w 2 ≤ 9; omega
          obtain ⟨v', x', d1, d2, d3⟩ := withoutL hV hp ht hc FU 0 _ 0 (by omega) (by unfold FU; omega) hBN
          have d1' : m_X6_without_L44 FU (upR (WA vM) 18 m) (nI t) (nI c) 0 0 = _ := d1
          obtain ⟨V2, x2, g1, g2, g3⟩ := cls n σ a3 a5 a6 (fun i hi => Sp_lt32 hV (a7.2.1 i hi).1)
          have hx : x2 = x' := b_ext (fun b hb => by
            have key : bt x2 b = true ↔ bt x' b = true := by
              rw [g3 b hb, d3 b hb, b_0, NW_iff (by omega)]
              constructor
              · rintro ⟨y1, y2, y3⟩
                exact Or.inr ⟨Nat.zero_le _, y1, y3⟩
              · rintro (y | ⟨-, y1, y2⟩)
                · cases y
                · refine ⟨y1, ?_, y2⟩
                  apply Classical.byContradiction
                  intro hno
                  apply y2
                  refine CB_dn (by omega) (wy_no a7 (fun i hi => ?_)) a2
                  have hsp := (a7.2.1 i hi).1
                  rcases (show c = 0 ∨ c = 1 by omega) with q | q
                  · subst q
                    rw [if_pos rfl, if_neg (by decide)]
                    exact Sp_noR hsp (fun h => hno ⟨i, hi, by rw [if_pos rfl]; exact h⟩)
                  · subst q
                    rw [if_neg (by decide), if_pos rfl]
                    exact Sp_noH hsp (fun h => hno ⟨i, hi, by rw [if_neg (by decide)]; exact h⟩)
            cases h1 : bt x2 b <;> cases h2 : bt x' b <;> simp_all)
          subst hx
          rw [d1', bnd_s, g1]
          exact ⟨_, _, rfl, rfl, rfl, Inv.mk' hIT hIW hIS hII hIJ hIC hvT (hfr.tr d2) (hok.kp g2)⟩
    · rw [if_neg (by omega), if_neg (by omega)]
      exact ⟨_, _, rfl, rfl, rfl, hI.same⟩
  · rw [if_neg hb, if_neg hb]
    exact ⟨_, _, rfl, rfl, rfl, hI.same⟩
end
