section
/-! PURE: the table filled backward -/
def dI (i : Nat) : Int32 := if i = 0 then -1 else nI (i - 1)
theorem dI_s (i : Nat) : dI (i + 1) = nI i := if_neg (by omega)
theorem dI_dn (i : Nat) : nI i + (-1) = dI i := by
  cases i with
  | zero => decide
  | succ j => rw [dI_s, ← nI_1, Int32.add_assoc, show (1 : Int32) + -1 = 0 by decide, Int32.add_zero]
theorem dI_0 : dI 0 < 0 := by decide
theorem fillB {w : Nat → Nat} {vW vS : Ob} (hV : WV w) (hC : WC w vW) (V : Ob) {H t E : Nat} (hH : H ≤ 9999) (hS : vS 0 1 = nI H) (hE : E ≤ 60) : ∀ (n i : Nat) (f : Nat → Int32), i ≤ E + 1 → i < n →
    (∀ k p s, p < 7 → s < 32 → (TB f k p s = true ↔ ((i ≤ k ∧ CB w H 99 99 t E k p s) ∨ (k = E ∧ p = 0 ∧ s.testBit t = true)))) →
    ∃ g, m_X3_fillBackward_L20 vW vS n (upR V 3 f) (dI i) = some (upR V 3 g) ∧ ∀ k p s, p < 7 → s < 32 → (TB g k p s = true ↔ CB w H 99 99 t E k p s)
  | 0, i, f, hi, hn, _ => by omega
  | n + 1, i, f, hi, hn, h => by
    have h7 := hV.1
    have h9 := hV.2.1
    have h6 := hV.2.2.1
    show ∃ g, m_X3_fillBackward_L20B vW vS (m_X3_fillBackward_L20 vW vS n) (upR V 3 f) (dI i) = some (upR V 3 g) ∧ _
    unfold m_X3_fillBackward_L20B
    cases i with
    | zero =>
      rw [if_pos dI_0]
      refine ⟨f, rfl, fun k p s hp hs => ?_⟩
      rw [h k p s hp hs]
      constructor
      · rintro (⟨-, z⟩ | ⟨z1, z2, z3⟩)
        · exact z
        · subst z1; subst z2; exact .z z3
      · exact fun z => Or.inl ⟨Nat.zero_le _, z⟩
    | succ e =>
      have he : e ≤ 60 := by omega
      rw [dI_s, if_neg (nI_pos (by omega))]
      obtain ⟨f1, a1, a2⟩ := copyB (vS := vS) hV hC V he FU 0 f (by omega) (by unfold FU; omega)
      have a1' : m_X3_fillBackward_L27 vW vS FU (upR V 3 f) (nI e) 0 = _ := a1
      rw [a1', bnd_s]
      dsimp only
      obtain ⟨f2, b1, b2⟩ := spreadW hV hC V f1 hH hS he false (nr := 99)
      have b1' : m_X3_spreadWalks (upR V 3 f1) vW vS (nI e) 0 (-1) = _ := b1
      rw [b1', bnd_s]
      obtain ⟨f3, c1, c2, c3⟩ := spreadA hV hC V he false f2 (nh := 99)
      have c1' : m_X3_spreadAsks (upR V 3 f2) vW (nI e) 0 (-1) = _ := c1
      rw [c1', bnd_s, dI_dn]
      have up : ∀ k p s, e < k → p < 7 → s < 32 → (TB f k p s = true ↔ CB w H 99 99 t E k p s) := by
        intro k p s hk hp hs
        rw [h k p s hp hs]
        constructor
        · rintro (⟨-, z⟩ | ⟨z1, z2, z3⟩)
          · exact z
          · subst z1; subst z2; exact .z z3
        · exact fun z => Or.inl ⟨by omega, z⟩
      have f1up : ∀ k p s, e < k → p < 7 → s < 32 → (TB f1 k p s = true ↔ CB w H 99 99 t E k p s) := by
        intro k p s hk hp hs
        rw [a2 k p s hp hs, up k p s hk hp hs]
        exact ⟨fun z => z.elim id (fun y => by omega), Or.inl⟩
      have f2ne : ∀ k p s, k ≠ e → p < 7 → s < 32 → (TB f2 k p s = true ↔ TB f k p s = true) := by
        intro k p s hk hp hs
        rw [b2 k p s hp hs, a2 k p s hp hs]
        constructor
        · rintro ((z | z) | ⟨r, z1, z2, z3, z4⟩)
          · exact z
          · omega
          · unfold W1 at z4
            rw [if_neg (by decide), if_neg (by decide)] at z4
            rcases z4 with ⟨z, -⟩ | ⟨z, -⟩ <;> omega
        · exact fun z => Or.inl (Or.inl z)
      refine fillB hV hC V hH hS hE n e f3 (by omega) (by omega) ?_
      intro k p s hp hs
      by_cases hk : k = e
      · subst hk
        rw [c3 p s hp hs]
        constructor
        · rintro ⟨m, s1, z1, z2, z3⟩
          refine Or.inl ⟨Nat.le_refl _, ASn_CB z3 ?_⟩
          rcases (b2 k p s1 hp z1).mp z2 with z | ⟨r, y1, y2, y3, y4⟩
          · rcases (a2 k p s1 hp z1).mp z with z | ⟨-, -, y1, y2⟩
            · rcases (h k p s1 hp z1).mp z with ⟨y, -⟩ | ⟨y1, y2, y3⟩
              · omega
              · subst y1; subst y2; exact .z y3
            · exact .c (σ := 0) (Or.inl ⟨rfl, y1, rfl, rfl, rfl⟩) ((up _ _ _ (by omega) hp z1).mp y2)
          · obtain ⟨ha, hb, hab, hl, -⟩ := hV.2.2.2.2.2.2.1 r y1
            unfold W1 at y4
            rw [if_neg (by decide), if_neg (by decide)] at y4
            rcases y4 with ⟨-, x1, s2, x2, x3, x4⟩ | ⟨-, x1, s2, x2, x3, x4⟩
            · exact .c (σ := 1 + r) (Or.inr (Or.inl ⟨r, rfl, y1, by omega, rfl, (sWalk_iff hV y1).mpr (Or.inl ⟨x1, rfl, x4⟩)⟩)) ((f1up _ _ _ (by omega) (by omega) x2).mp x3)
            · exact .c (σ := 1 + r) (Or.inr (Or.inl ⟨r, rfl, y1, by omega, rfl, (sWalk_iff hV y1).mpr (Or.inr ⟨x1, rfl, x4⟩)⟩)) ((f1up _ _ _ (by omega) (by omega) x2).mp x3)
        · intro hz
          have hcb : CB w H 99 99 t E k p s := by
            rcases hz with ⟨-, z⟩ | ⟨z1, z2, z3⟩
            · exact z
            · subst z1; subst z2; exact .z z3
          obtain ⟨m, s1, y1, y2, y3⟩ := CB_asks hV hcb hs
          refine ⟨m, s1, y1, ?_, y2⟩
          rcases y3 with y3 | ⟨k1, p1, s2, σ, x1, x2, x3, x4⟩
          · exact (b2 k p s1 hp y1).mpr (Or.inl ((a2 k p s1 hp y1).mpr (Or.inl ((h k p s1 hp y1).mpr (Or.inr y3)))))
          · have hin := Sp_in hV y1 x4
            rcases x4 with ⟨-, q1, q2, q3, q4⟩ | ⟨r, q1, q2, q3, q4, q5⟩ | ⟨g, q1, -⟩
            · subst q2; subst q3; subst q4
              exact (b2 k _ _ hp y1).mpr (Or.inl ((a2 k _ _ hp y1).mpr (Or.inr ⟨rfl, Nat.zero_le _, q1, (up _ _ _ (by omega) hp y1).mpr x3⟩)))
            · have hle := CB_le x3
              refine (b2 k p s1 hp y1).mpr (Or.inr ⟨r, q2, q3, by omega, ?_⟩)
              unfold W1
              rw [if_neg (by decide), if_neg (by decide)]
              subst q4
              rcases (sWalk_iff hV q2).mp q5 with ⟨w1, w2, w3⟩ | ⟨w1, w2, w3⟩
              · exact Or.inl ⟨rfl, w1, s2, hin.2.2.1, (f1up _ _ _ (by omega) (by omega) hin.2.2.1).mpr (w2 ▸ x3), w3⟩
              · exact Or.inr ⟨rfl, w1, s2, hin.2.2.1, (f1up _ _ _ (by omega) (by omega) hin.2.2.1).mpr (w2 ▸ x3), w3⟩
            · omega
      · rw [c2 k p s hp hs hk, f2ne k p s hk hp hs, h k p s hp hs]
        constructor
        · rintro (⟨z1, z2⟩ | z)
          · exact Or.inl ⟨by omega, z2⟩
          · exact Or.inr z
        · rintro (⟨z1, z2⟩ | z)
          · exact Or.inl ⟨by omega, z2⟩
          · exact Or.inr z
theorem backward {w : Nat → Nat} {vW vS : Ob} (hV : WV w) (hC : WC w vW) (V : Ob) {H t E : Nat} (hH : H ≤ 9999) (hS : vS 0 1 = nI H) (hE : E ≤ 60) (ht : t < 5) : ∃ g, m_X3_fillBackward V vW vS (nI t) (nI E) = some (upR V 3 g) ∧ ∀ k p s, p < 7 → s < 32 → (TB g k p s = true ↔ CB w H 99 99 t E k p s) := by
  obtain ⟨f, f1, f2⟩ := fillC (V 3)
  obtain ⟨g, g1, g2⟩ := fillB (vS := vS) hV hC V (H := H) (t := t) hH hS hE FU (E + 1) (ad f E 0 (hav t)) (by omega) (by unfold FU; omega) (fun k p s hp hs => by
    rw [TB_ad f (by omega) hp, f2 k p s hp, hav_b (Or.inl ht) hs]
    constructor
    · rintro (z | ⟨z1, z2, z3, z4⟩)
      · cases z
      · exact Or.inr ⟨z1, z2, z4.resolve_left (by omega)⟩
    · rintro (⟨z1, z2⟩ | ⟨z1, z2, z3⟩)
      · have := CB_le z2; omega
      · exact Or.inr ⟨z1, z2, hE, Or.inr z3⟩)
  refine ⟨g, ?_, g2⟩
  unfold m_X3_fillBackward
  rw [f1, bnd_s, having (by omega), bnd_s, show (0 : Int32) = nI 0 from rfl, addSets_e V f (by omega) (by omega), bnd_s, ← dI_s, g1, bnd_s]
/-- the most hours to wait -/
theorem mostL {w : Nat → Nat} {vW vS : Ob} (V : Ob) (g : Nat → Int32) {H t E p0 s0 : Nat} (hE : E ≤ 60) (hS0 : vS 0 0 = nI p0) (hS2 : vS 0 2 = nI s0) (hp0 : p0 < 7) (hs0 : s0 < 32) (hg : ∀ k p s, p < 7 → s < 32 → (TB g k p s = true ↔ CB w H 99 99 t E k p s)) : ∀ (n i : Nat), i ≤ E + 1 → i < n →
    (∃ e, e < i ∧ CB w H 99 99 t E e p0 s0 ∧ (∀ e', e < e' → e' < i → ¬ CB w H 99 99 t E e' p0 s0) ∧ m_X3_mostWaiting_L8 vW vS n (upR V 3 g) (dI i) = some (Sum.inl (nI e, upR V 3 g))) ∨ ((∀ e, e < i → ¬ CB w H 99 99 t E e p0 s0) ∧ m_X3_mostWaiting_L8 vW vS n (upR V 3 g) (dI i) = some (Sum.inr (upR V 3 g)))
  | 0, i, hi, hn => by omega
  | n + 1, i, hi, hn => by
    have hdef : m_X3_mostWaiting_L8 vW vS (n + 1) (upR V 3 g) (dI i) = m_X3_mostWaiting_L8B vW vS (m_X3_mostWaiting_L8 vW vS n) (upR V 3 g) (dI i) := rfl
    rw [hdef]
    unfold m_X3_mostWaiting_L8B
    cases i with
    | zero => rw [if_pos dI_0]; exact Or.inr ⟨fun e he => by omega, rfl⟩
    | succ e =>
      rw [dI_s, if_neg (nI_pos (by omega)), hS0, hS2, canBeHome_e V g (by omega) hp0 hs0 _ (upR_eq _ _ _), bnd_s, if_bi, dI_dn]
      by_cases hc : CB w H 99 99 t E e p0 s0
      · rw [if_pos ((hg e p0 s0 hp0 hs0).mpr hc)]
        exact Or.inl ⟨e, by omega, hc, fun e' h1 h2 => by omega, rfl⟩
      · rw [if_neg (fun z => hc ((hg e p0 s0 hp0 hs0).mp z))]
        rcases mostL (vW := vW) V g hE hS0 hS2 hp0 hs0 hg n e (by omega) (by omega) with ⟨e1, h1, h2, h3, h4⟩ | ⟨h1, h2⟩
        · refine Or.inl ⟨e1, by omega, h2, fun e' q1 q2 => ?_, h4⟩
          by_cases he : e' = e
          · subst he; exact hc
          · exact h3 e' q1 (by omega)
        · refine Or.inr ⟨fun e' q => ?_, h2⟩
          by_cases he : e' = e
          · subst he; exact hc
          · exact h1 e' (by omega)
theorem mostC {w : Nat → Nat} {vW vS : Ob} (hV : WV w) (hC : WC w vW) (V : Ob) {H t E p0 s0 : Nat} (hH : H ≤ 9999) (hS0 : vS 0 0 = nI p0) (hS : vS 0 1 = nI H) (hS2 : vS 0 2 = nI s0) (hp0 : p0 < 7) (hs0 : s0 < 32) (hE : E ≤ 60) (ht : t < 5) :
    ∃ g, (∃ e, e ≤ E ∧ CB w H 99 99 t E e p0 s0 ∧ (∀ e', e < e' → e' ≤ E → ¬ CB w H 99 99 t E e' p0 s0) ∧ m_X3_mostWaiting V vW vS (nI t) (nI E) = some (nI e, upR V 3 g)) ∨ ((∀ e, e ≤ E → ¬ CB w H 99 99 t E e p0 s0) ∧ m_X3_mostWaiting V vW vS (nI t) (nI E) = some (-9, upR V 3 g)) := by
  obtain ⟨g, g1, g2⟩ := backward hV hC V hH hS hE ht
  refine ⟨g, ?_⟩
  unfold m_X3_mostWaiting
  rw [g1, bnd_s]
  rcases mostL (w := w) (vW := vW) V g hE hS0 hS2 hp0 hs0 g2 FU (E + 1) (by omega) (by unfold FU; omega) with ⟨e, h1, h2, h3, h4⟩ | ⟨h1, h2⟩
  · rw [dI_s] at h4
    rw [h4, bnd_s, sm_l]
    exact Or.inl ⟨e, by omega, h2, fun e' q1 q2 => h3 e' q1 (by omega), rfl⟩
  · rw [dI_s] at h2
    rw [h2, bnd_s, sm_r]
    exact Or.inr ⟨fun e he => h1 e (by omega), rfl⟩
end
