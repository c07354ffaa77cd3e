section
/-! PURE: walks over the table; steps; the fewest hours -/
theorem sWalk_iff {w : Nat → Nat} (hV : WV w) {r p0 h s0 p s : Nat} (hr : r < w 1) : sWalk w r p0 h s0 = some (p, s) ↔ ((p0 = w (25 + r) ∧ p = w (34 + r) ∧ sEnt w (w (34 + r)) h s0 = some s) ∨ (p0 = w (34 + r) ∧ p = w (25 + r) ∧ sEnt w (w (25 + r)) h s0 = some s)) := by
  obtain ⟨ha, hb, hab, -, -⟩ := hV.2.2.2.2.2.2.1 r hr
  unfold sWalk sFar
  by_cases h1 : w (25 + r) = p0
  · rw [if_pos h1]
    simp only [Option.bind_some]
    constructor
    · intro z
      cases hx : sEnt w (w (34 + r)) h s0 with
      | none => rw [hx] at z; cases z
      | some y => rw [hx] at z; cases z; exact Or.inl ⟨h1.symm, rfl, rfl⟩
    · rintro (⟨z1, z2, z3⟩ | ⟨z1, z2, z3⟩)
      · rw [z3, z2]; rfl
      · exact absurd (h1.trans z1) hab
  · rw [if_neg h1]
    by_cases h2 : w (34 + r) = p0
    · rw [if_pos h2]
      simp only [Option.bind_some]
      constructor
      · intro z
        cases hx : sEnt w (w (25 + r)) h s0 with
        | none => rw [hx] at z; cases z
        | some y => rw [hx] at z; cases z; exact Or.inr ⟨h2.symm, rfl, rfl⟩
      · rintro (⟨z1, z2, z3⟩ | ⟨z1, z2, z3⟩)
        · exact absurd z1.symm h1
        · rw [z3, z2]; rfl
    · rw [if_neg h2]
      constructor
      · intro z; cases z
      · rintro (⟨z1, z2, z3⟩ | ⟨z1, z2, z3⟩)
        · exact absurd z1.symm h1
        · exact absurd z1.symm h2
/-- what one way of a road adds -/
def W1 (w : Nat → Nat) (H : Nat) (d : Bool) (f : Nat → Int32) (e th a b k p s : Nat) : Prop := if d = true then (k = th ∧ p = b ∧ ∃ s0, s0 < 32 ∧ TB f e a s0 = true ∧ sEnt w b (H + th) s0 = some s) else (k = e ∧ p = a ∧ ∃ s1, s1 < 32 ∧ TB f th b s1 = true ∧ sEnt w b (H + th) s = some s1)
theorem walk1 {w : Nat → Nat} {vW vS : Ob} (hV : WV w) (hC : WC w vW) (V : Ob) (f : Nat → Int32) {H e th a b : Nat} (hH : H ≤ 9999) (hS : vS 0 1 = nI H) (he : e ≤ 60) (hth : th ≤ 60) (ha : a < w 0) (hb : b < w 0) (d : Bool) :
    ∃ g, m_X3_spreadWalk (upR V 3 f) vW vS (nI e) (nI th) (nI a) (nI b) (if d = true then 1 else 0) = some (upR V 3 g) ∧ ∀ k p s, p < 7 → s < 32 → (TB g k p s = true ↔ (TB f k p s = true ∨ W1 w H d f e th a b k p s)) := by
  have h7 := hV.1
  obtain ⟨hl, -, -, -⟩ := hV.2.2.2.2.1 b hb
  unfold m_X3_spreadWalk
  rw [hS, nI_add, isOpenC hV hC hb (by omega), bnd_s, if_bi]
  by_cases ho : sOpen w b (H + th) = true
  · rw [if_pos ho, lionAt_y hV hC hb, bnd_s]
    cases d with
    | true =>
      rw [if_neg (show ¬ (if true = true then (1 : Int32) else 0) = 0 by decide), setsAt_e V f (by omega) (by omega), bnd_s]
      obtain ⟨y, y1, y2⟩ := lessC (gt f e a) hl
      rw [y1, bnd_s, addSets_e V f (by omega) (by omega), bnd_s]
      refine ⟨_, rfl, fun k p s hp hs => ?_⟩
      rw [TB_ad f (by omega) hp, y2 s hs]
      unfold W1
      rw [if_pos rfl]
      have : ∀ s0, sEnt w b (H + th) s0 = tk (w (4 + b)) s0 := fun s0 => by rw [sEnt_tk, if_pos ho]
      simp only [this, bt_gt]
      constructor
      · rintro (z | ⟨z1, z2, -, z3⟩)
        · exact Or.inl z
        · exact Or.inr ⟨z1, z2, z3⟩
      · rintro (z | ⟨z1, z2, z3⟩)
        · exact Or.inl z
        · exact Or.inr ⟨z1, z2, hth, z3⟩
    | false =>
      rw [if_pos (show (if false = true then (1 : Int32) else 0) = 0 from rfl), setsAt_e V f (by omega) (by omega), bnd_s]
      obtain ⟨y, y1, y2⟩ := withC (gt f th b) hl
      rw [y1, bnd_s, addSets_e V f (by omega) (by omega), bnd_s]
      refine ⟨_, rfl, fun k p s hp hs => ?_⟩
      rw [TB_ad f (by omega) hp, y2 s hs]
      unfold W1
      rw [if_neg (by decide)]
      have : ∀ s0, sEnt w b (H + th) s0 = tk (w (4 + b)) s0 := fun s0 => by rw [sEnt_tk, if_pos ho]
      simp only [this, bt_gt]
      constructor
      · rintro (z | ⟨z1, z2, -, z3⟩)
        · exact Or.inl z
        · exact Or.inr ⟨z1, z2, z3⟩
      · rintro (z | ⟨z1, z2, z3⟩)
        · exact Or.inl z
        · exact Or.inr ⟨z1, z2, he, z3⟩
  · rw [if_neg ho]
    refine ⟨f, rfl, fun k p s hp hs => ⟨Or.inl, ?_⟩⟩
    rintro (z | z)
    · exact z
    · unfold W1 at z
      have hn : ∀ s0, sEnt w b (H + th) s0 = none := fun s0 => by rw [sEnt_tk, if_neg ho]
      cases d with
      | true => rw [if_pos rfl] at z; obtain ⟨-, -, s0, -, -, z⟩ := z; rw [hn] at z; cases z
      | false => rw [if_neg (by decide)] at z; obtain ⟨-, -, s0, -, -, z⟩ := z; rw [hn] at z; cases z
/-- the hours that are read -/
def RD (d : Bool) (e k : Nat) : Prop := if d = true then k = e else k ≠ e
def Ag (d : Bool) (e : Nat) (f f0 : Nat → Int32) : Prop := ∀ k p s, p < 7 → s < 32 → RD d e k → TB f k p s = TB f0 k p s
theorem W1_ag {w : Nat → Nat} {H : Nat} {d : Bool} {f f0 : Nat → Int32} {e th a b k p s : Nat} (h : Ag d e f f0) (ha : a < 7) (hb : b < 7) (hne : th ≠ e) : W1 w H d f e th a b k p s ↔ W1 w H d f0 e th a b k p s := by
  unfold W1
  cases d with
  | true =>
    rw [if_pos rfl, if_pos rfl]
    constructor
    · rintro ⟨z1, z2, s0, z3, z4, z5⟩
      exact ⟨z1, z2, s0, z3, by rw [← h e a s0 ha z3 (by unfold RD; rw [if_pos rfl])]; exact z4, z5⟩
    · rintro ⟨z1, z2, s0, z3, z4, z5⟩
      exact ⟨z1, z2, s0, z3, by rw [h e a s0 ha z3 (by unfold RD; rw [if_pos rfl])]; exact z4, z5⟩
  | false =>
    rw [if_neg (by decide), if_neg (by decide)]
    constructor
    · rintro ⟨z1, z2, s0, z3, z4, z5⟩
      exact ⟨z1, z2, s0, z3, by rw [← h th b s0 hb z3 (by unfold RD; rw [if_neg (by decide)]; exact hne)]; exact z4, z5⟩
    · rintro ⟨z1, z2, s0, z3, z4, z5⟩
      exact ⟨z1, z2, s0, z3, by rw [h th b s0 hb z3 (by unfold RD; rw [if_neg (by decide)]; exact hne)]; exact z4, z5⟩
theorem Ag_step {w : Nat → Nat} {H : Nat} {d : Bool} {f f0 f1 g : Nat → Int32} {e th a b : Nat} (h : Ag d e f f0) (hne : th ≠ e) (hg : ∀ k p s, p < 7 → s < 32 → (TB g k p s = true ↔ (TB f k p s = true ∨ W1 w H d f1 e th a b k p s))) : Ag d e g f0 := by
  intro k p s hp hs hk
  rw [← h k p s hp hs hk]
  have hn : ¬ W1 w H d f1 e th a b k p s := by
    unfold W1; unfold RD at hk
    cases d with
    | true => rw [if_pos rfl] at hk ⊢; rintro ⟨z, -⟩; omega
    | false => rw [if_neg (by decide)] at hk ⊢; rintro ⟨z, -⟩; omega
  have := hg k p s hp hs
  cases hx : TB f k p s with
  | true => exact this.mpr (Or.inl hx)
  | false =>
    cases hy : TB g k p s with
    | false => rfl
    | true =>
      rcases this.mp hy with z | z
      · rw [hx] at z; cases z
      · exact absurd z hn
def WW (w : Nat → Nat) (H : Nat) (d : Bool) (f : Nat → Int32) (e r k p s : Nat) : Prop := e + w (43 + r) ≤ 60 ∧ (W1 w H d f e (e + w (43 + r)) (w (25 + r)) (w (34 + r)) k p s ∨ W1 w H d f e (e + w (43 + r)) (w (34 + r)) (w (25 + r)) k p s)
theorem walksL {w : Nat → Nat} {vW vS : Ob} (hV : WV w) (hC : WC w vW) (V : Ob) (f0 : Nat → Int32) {H e nr : Nat} (hH : H ≤ 9999) (hS : vS 0 1 = nI H) (he : e ≤ 60) (d : Bool) : ∀ (n i : Nat) (f : Nat → Int32), i ≤ w 1 → w 1 - i < n → Ag d e f f0 →
    ∃ g, m_X3_spreadWalks_L3 vW vS n (upR V 3 f) (nI e) (if d = true then 1 else 0) (nbI nr) (nI i) = some (upR V 3 g) ∧ ∀ k p s, p < 7 → s < 32 → (TB g k p s = true ↔ (TB f k p s = true ∨ ∃ r, i ≤ r ∧ r < w 1 ∧ r ≠ nr ∧ WW w H d f0 e r k p s))
  | 0, i, f, hi, hn, hag => by omega
  | n + 1, i, f, hi, hn, hag => by
    have h9 := hV.2.1
    have h7 := hV.1
    show ∃ g, m_X3_spreadWalks_L3B vW vS (m_X3_spreadWalks_L3 vW vS n) (upR V 3 f) (nI e) (if d = true then 1 else 0) (nbI nr) (nI i) = some (upR V 3 g) ∧ _
    unfold m_X3_spreadWalks_L3B m_X3_spreadWalks_j93
    rw [hC.2.1]
    by_cases hlt : i < w 1
    · obtain ⟨ha, hb, hab, hl1, hl9⟩ := hV.2.2.2.2.2.2.1 i hlt
      rw [if_neg (nI_ge hlt (by omega)), nI_1]
      have skip : ∀ g : Nat → Int32, (∀ k p s, p < 7 → s < 32 → (TB g k p s = true ↔ (TB f k p s = true ∨ ∃ r, i + 1 ≤ r ∧ r < w 1 ∧ r ≠ nr ∧ WW w H d f0 e r k p s))) → (i ≠ nr → ∀ k p s, ¬ WW w H d f0 e i k p s) → ∀ k p s, p < 7 → s < 32 → (TB g k p s = true ↔ (TB f k p s = true ∨ ∃ r, i ≤ r ∧ r < w 1 ∧ r ≠ nr ∧ WW w H d f0 e r k p s)) := by
        intro g hg hno k p s hp hs
        rw [hg k p s hp hs]
        constructor
        · rintro (z | ⟨r, z1, z2, z3, z4⟩)
          · exact Or.inl z
          · exact Or.inr ⟨r, by omega, z2, z3, z4⟩
        · rintro (z | ⟨r, z1, z2, z3, z4⟩)
          · exact Or.inl z
          · by_cases hri : r = i
            · subst hri; exact absurd z4 (hno z3 k p s)
            · exact Or.inr ⟨r, by omega, z2, z3, z4⟩
      by_cases hin : i = nr
      · rw [if_pos ((nbI_eq (by omega)).mpr hin)]
        obtain ⟨g, g1, g2⟩ := walksL hV hC V f0 hH hS he d n (i + 1) f (by omega) (by omega) hag (nr := nr)
        exact ⟨g, g1, skip g g2 (fun z => absurd hin z)⟩
      · rw [if_neg (fun z => hin ((nbI_eq (by omega)).mp z)), roadStart_y hV hC hlt, bnd_s, roadEnd_y hV hC hlt, bnd_s, roadHours_y hV hC hlt, bnd_s, nI_add, show (60 : Int32) = nI 60 from rfl]
        by_cases h60 : e + w (43 + i) ≤ 60
        · rw [if_pos (nI_le h60 (by omega))]
          have hne : e + w (43 + i) ≠ e := by omega
          obtain ⟨f1, p1, p2⟩ := walk1 hV hC V f hH hS he h60 ha hb d
          obtain ⟨f2, q1, q2⟩ := walk1 hV hC V f1 hH hS he h60 hb ha d
          have ag1 := Ag_step hag hne p2
          have ag2 := Ag_step ag1 hne q2
          rw [p1, bnd_s, q1, bnd_s]
          obtain ⟨g, g1, g2⟩ := walksL hV hC V f0 hH hS he d n (i + 1) f2 (by omega) (by omega) ag2 (nr := nr)
          refine ⟨g, g1, fun k p s hp hs => ?_⟩
          rw [g2 k p s hp hs, q2 k p s hp hs, p2 k p s hp hs, W1_ag hag (by omega) (by omega) hne, W1_ag ag1 (by omega) (by omega) hne]
          constructor
          · rintro (((z | z) | z) | ⟨r, z1, z2, z3, z4⟩)
            · exact Or.inl z
            · exact Or.inr ⟨i, Nat.le_refl _, hlt, hin, h60, Or.inl z⟩
            · exact Or.inr ⟨i, Nat.le_refl _, hlt, hin, h60, Or.inr z⟩
            · exact Or.inr ⟨r, by omega, z2, z3, z4⟩
          · rintro (z | ⟨r, z1, z2, z3, z4⟩)
            · exact Or.inl (Or.inl (Or.inl z))
            · by_cases hri : r = i
              · subst hri
                rcases z4.2 with y | y
                · exact Or.inl (Or.inl (Or.inr y))
                · exact Or.inl (Or.inr y)
              · exact Or.inr ⟨r, by omega, z2, z3, z4⟩
        · rw [if_neg (nI_ge (by omega) (by omega))]
          obtain ⟨g, g1, g2⟩ := walksL hV hC V f0 hH hS he d n (i + 1) f (by omega) (by omega) hag (nr := nr)
          exact ⟨g, g1, skip g g2 (fun _ k p s z => h60 z.1)⟩
    · rw [if_pos (nI_le (by omega) (by omega))]
      refine ⟨f, rfl, fun k p s hp hs => ⟨Or.inl, ?_⟩⟩
      rintro (z | ⟨r, z1, z2, -⟩)
      · exact z
      · omega
theorem spreadW {w : Nat → Nat} {vW vS : Ob} (hV : WV w) (hC : WC w vW) (V : Ob) (f : Nat → Int32) {H e nr : Nat} (hH : H ≤ 9999) (hS : vS 0 1 = nI H) (he : e ≤ 60) (d : Bool) :
    ∃ g, m_X3_spreadWalks (upR V 3 f) vW vS (nI e) (if d = true then 1 else 0) (nbI nr) = some (upR V 3 g) ∧ ∀ k p s, p < 7 → s < 32 → (TB g k p s = true ↔ (TB f k p s = true ∨ ∃ r, r < w 1 ∧ r ≠ nr ∧ WW w H d f e r k p s)) := by
  have h9 := hV.2.1
  obtain ⟨g, g1, g2⟩ := walksL hV hC V f hH hS he d FU 0 f (by omega) (by unfold FU; omega) (fun _ _ _ _ _ _ => rfl) (nr := nr)
  have g1' : m_X3_spreadWalks_L3 vW vS FU (upR V 3 f) (nI e) (if d = true then 1 else 0) (nbI nr) 0 = some (upR V 3 g) := g1
  refine ⟨g, by unfold m_X3_spreadWalks; rw [g1', bnd_s], fun k p s hp hs => ?_⟩
  rw [g2 k p s hp hs]
  constructor
  · rintro (z | ⟨r, -, z⟩)
    · exact Or.inl z
    · exact Or.inr ⟨r, z⟩
  · rintro (z | ⟨r, z⟩)
    · exact Or.inl z
    · exact Or.inr ⟨r, Nat.zero_le _, z⟩
theorem fillL : ∀ (n i : Nat) (f : Nat → Int32), i ≤ 427 → 427 - i < n → (∀ j, j < i → f j = 0) → ∃ g, m_J7_fill_53178_L5 n f 0 (nI i) 427 = some g ∧ ∀ j, j < 427 → g j = 0
  | 0, i, f, hi, hn, h => by omega
  | n + 1, i, f, hi, hn, h => by
    show ∃ g, m_J7_fill_53178_L5B (m_J7_fill_53178_L5 n) f 0 (nI i) 427 = some g ∧ _
    unfold m_J7_fill_53178_L5B
    rw [show (427 : Int32) = nI 427 from rfl]
    by_cases hlt : i < 427
    · rw [if_neg (nI_ge hlt (by omega)), grd_t (inb_nI hlt (by omega)), cl (by omega), nI_1]
      refine fillL n (i + 1) _ (by omega) (by omega) (fun j hj => ?_)
      by_cases hji : j = i
      · subst hji; exact upd_eq _ _ _
      · rw [upd_ne _ _ hji]; exact h j (by omega)
    · rw [if_pos (nI_le (by omega) (by omega))]
      exact ⟨f, rfl, fun j hj => h j (by omega)⟩
theorem fillC (f : Nat → Int32) : ∃ g, m_J7_fill_53178 f 0 = some g ∧ ∀ k p s, p < 7 → TB g k p s = false := by
  obtain ⟨g, g1, g2⟩ := fillL FU 0 f (by omega) (by unfold FU; omega) (fun j hj => by omega)
  have g1' : m_J7_fill_53178_L5 FU f 0 0 427 = some g := g1
  refine ⟨g, by unfold m_J7_fill_53178; rw [g1', bnd_s], fun k p s hp => ?_⟩
  unfold TB
  by_cases hk : k ≤ 60
  · rw [g2 _ (by omega), b_0, Bool.and_false]
  · simp [hk]
end
