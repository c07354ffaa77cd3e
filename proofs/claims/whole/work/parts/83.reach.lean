section
/-! PURE: steps, what can be reached, from where one can be home -/
def Sp (w : Nat → Nat) (H nr nh σ k p s k' p' s' : Nat) : Prop := (σ = 0 ∧ p < w 0 ∧ k' = k + 1 ∧ p' = p ∧ s' = s) ∨ (∃ r, σ = 1 + r ∧ r < w 1 ∧ r ≠ nr ∧ k' = k + w (43 + r) ∧ sWalk w r p (H + k') s = some (p', s')) ∨ (∃ h, σ = 11 + h ∧ h < w 2 ∧ h ≠ nh ∧ k' = k ∧ p' = p ∧ sGive w h p s = some s')
def FR (w : Nat → Nat) (H nr nh p0 s0 k p s : Nat) : Prop := ∀ Q : Nat → Nat → Nat → Prop, Q 0 p0 s0 → (∀ σ k p s k' p' s', Q k p s → Sp w H nr nh σ k p s k' p' s' → Q k' p' s') → Q k p s
theorem FR.z {w : Nat → Nat} {H nr nh p0 s0 : Nat} : FR w H nr nh p0 s0 0 p0 s0 := fun _ a _ => a
theorem FR.c {w : Nat → Nat} {H nr nh p0 s0 σ k p s k' p' s' : Nat} (a : FR w H nr nh p0 s0 k p s) (b : Sp w H nr nh σ k p s k' p' s') : FR w H nr nh p0 s0 k' p' s' := fun Q x y => y σ k p s k' p' s' (a Q x y) b
theorem FR_ind {w : Nat → Nat} {H nr nh p0 s0 : Nat} {motive : ∀ k p s, FR w H nr nh p0 s0 k p s → Prop} (z : motive 0 p0 s0 FR.z) (c : ∀ {σ k p s k' p' s' : Nat} (a : FR w H nr nh p0 s0 k p s) (b : Sp w H nr nh σ k p s k' p' s'), motive k p s a → motive k' p' s' (FR.c a b)) {k p s : Nat} (h : FR w H nr nh p0 s0 k p s) : motive k p s h := by
  obtain ⟨g0, q⟩ := h (fun k p s => ∃ g : FR w H nr nh p0 s0 k p s, motive k p s g) ⟨FR.z, z⟩ (fun σ k p s k' p' s' ⟨g, i⟩ b => ⟨FR.c g b, c g b i⟩)
  exact q
def CB (w : Nat → Nat) (H nr nh t e k p s : Nat) : Prop := ∀ Q : Nat → Nat → Nat → Prop, (∀ s : Nat, s.testBit t = true → Q e 0 s) → (∀ σ k p s k' p' s', Sp w H nr nh σ k p s k' p' s' → Q k' p' s' → Q k p s) → Q k p s
theorem CB.z {w : Nat → Nat} {H nr nh t e s : Nat} (h : s.testBit t = true) : CB w H nr nh t e e 0 s := fun _ a _ => a s h
theorem CB.c {w : Nat → Nat} {H nr nh t e σ k p s k' p' s' : Nat} (a : Sp w H nr nh σ k p s k' p' s') (b : CB w H nr nh t e k' p' s') : CB w H nr nh t e k p s := fun Q x y => y σ k p s k' p' s' a (b Q x y)
theorem CB_ind {w : Nat → Nat} {H nr nh t e : Nat} {motive : ∀ k p s, CB w H nr nh t e k p s → Prop} (z : ∀ {s : Nat} (h : s.testBit t = true), motive e 0 s (CB.z h)) (c : ∀ {σ k p s k' p' s' : Nat} (a : Sp w H nr nh σ k p s k' p' s') (b : CB w H nr nh t e k' p' s'), motive k' p' s' b → motive k p s (CB.c a b)) {k p s : Nat} (h : CB w H nr nh t e k p s) : motive k p s h := by
  obtain ⟨g0, q⟩ := h (fun k p s => ∃ g : CB w H nr nh t e k p s, motive k p s g) (fun s h => ⟨CB.z h, z h⟩) (fun σ k p s k' p' s' a ⟨g, i⟩ => ⟨CB.c a g, c a g i⟩)
  exact q
theorem sWalk_in {w : Nat → Nat} (hV : WV w) {r p h s q s' : Nat} (hr : r < w 1) (hs : s < 32) (hw : sWalk w r p h s = some (q, s')) : p < w 0 ∧ q < w 0 ∧ s' < 32 := by
  obtain ⟨ha, hb, hab, -, -⟩ := hV.2.2.2.2.2.2.1 r hr
  rcases (sWalk_iff hV hr).mp hw with ⟨z1, z2, z3⟩ | ⟨z1, z2, z3⟩
  · exact ⟨by omega, by omega, sEnt_lt hV hb hs z3⟩
  · exact ⟨by omega, by omega, sEnt_lt hV ha hs z3⟩
theorem Sp_in {w : Nat → Nat} (hV : WV w) {H nr nh σ k p s k' p' s' : Nat} (hs : s < 32) (h : Sp w H nr nh σ k p s k' p' s') : p < w 0 ∧ p' < w 0 ∧ s' < 32 ∧ k ≤ k' ∧ (σ < 11 → k < k') := by
  rcases h with ⟨h1, h2, h3, h4, h5⟩ | ⟨r, h1, h2, h3, h4, h5⟩ | ⟨g, h1, h2, h3, h4, h5, h6⟩
  · subst h4; subst h5; exact ⟨h2, h2, hs, by omega, fun _ => by omega⟩
  · obtain ⟨-, -, -, hl1, -⟩ := hV.2.2.2.2.2.2.1 r h2
    obtain ⟨a, b, c⟩ := sWalk_in hV h2 hs h5
    exact ⟨a, b, c, by omega, fun _ => by omega⟩
  · subst h5
    have := sGive_in hV h2 hs h6
    exact ⟨this.2.2.1, this.2.2.1, this.1, by omega, fun z => by omega⟩
theorem FR_in {w : Nat → Nat} (hV : WV w) {H nr nh p0 s0 k p s : Nat} (hp : p0 < 7) (hs : s0 < 32) (h : FR w H nr nh p0 s0 k p s) : p < 7 ∧ s < 32 := by
  have h7 := hV.1
  induction h using FR_ind with
  | z => exact ⟨hp, hs⟩
  | c a b ih =>
    have := Sp_in hV ih.2 b
    exact ⟨by omega, this.2.2.1⟩
theorem CB_le {w : Nat → Nat} {H nr nh t e k p s : Nat} (h : CB w H nr nh t e k p s) : k ≤ e := by
  induction h using CB_ind with
  | z => exact Nat.le_refl _
  | c a b ih =>
    rcases a with ⟨-, -, h3, -⟩ | ⟨r, -, -, -, h4, -⟩ | ⟨g, -, -, -, h4, -⟩ <;> omega
theorem FR_CB {w : Nat → Nat} {H nr nh p0 s0 t e k p s : Nat} (h : FR w H nr nh p0 s0 k p s) : CB w H nr nh t e k p s → CB w H nr nh t e 0 p0 s0 := by
  induction h using FR_ind with
  | z => exact id
  | c a b ih => intro z; exact ih (.c b z)
theorem CB_FR {w : Nat → Nat} {H nr nh p0 s0 t e k p s : Nat} (h : CB w H nr nh t e k p s) : FR w H nr nh p0 s0 k p s → ∃ s', FR w H nr nh p0 s0 e 0 s' ∧ s'.testBit t = true := by
  induction h using CB_ind with
  | z h => intro z; exact ⟨_, z, h⟩
  | c a b ih => intro z; exact ih (.c z a)
theorem CB_iff {w : Nat → Nat} {H nr nh p0 s0 t e : Nat} : CB w H nr nh t e 0 p0 s0 ↔ ∃ s, FR w H nr nh p0 s0 e 0 s ∧ s.testBit t = true :=
  ⟨fun h => CB_FR h .z, fun ⟨s, h1, h2⟩ => FR_CB h1 (.z h2)⟩
theorem CB_up {w : Nat → Nat} (h0 : 0 < w 0) {H nr nh p0 s0 t e : Nat} (h : CB w H nr nh t e 0 p0 s0) : ∀ d, CB w H nr nh t (e + d) 0 p0 s0
  | 0 => h
  | d + 1 => by
    obtain ⟨s, h1, h2⟩ := CB_iff.mp (CB_up h0 h d)
    exact CB_iff.mpr ⟨s, .c (σ := 0) h1 (Or.inl ⟨rfl, h0, rfl, rfl, rfl⟩), h2⟩
/-- reached: last asks, before them a start or a step of another kind -/
theorem FR_asks {w : Nat → Nat} (hV : WV w) {H nr nh p0 s0 k p s : Nat} (hp0 : p0 < 7) (hs0 : s0 < 32) (h : FR w H nr nh p0 s0 k p s) : ∃ m s1, s1 < 32 ∧ ASn w nh true p m s1 s ∧ ((k = 0 ∧ p = p0 ∧ s1 = s0) ∨ ∃ k1 p1 s2 σ, k1 < k ∧ σ < 11 ∧ FR w H nr nh p0 s0 k1 p1 s2 ∧ Sp w H nr nh σ k1 p1 s2 k p s1) := by
  have h9 := hV.2.1
  induction h using FR_ind with
  | z => exact ⟨0, s0, hs0, .z _, Or.inl ⟨rfl, rfl, rfl⟩⟩
  | @c σ k p s k' p' s' a b ih =>
    have hin := Sp_in hV (FR_in hV hp0 hs0 a).2 b
    rcases b with b | b | ⟨g, h1, h2, h3, h4, h5, h6⟩
    · exact ⟨0, s', hin.2.2.1, .z _, Or.inr ⟨k, p, s, 0, by omega, by omega, a, Or.inl ⟨rfl, b.2⟩⟩⟩
    · obtain ⟨r, h1, h2, h3, h4, h5⟩ := b
      exact ⟨0, s', hin.2.2.1, .z _, Or.inr ⟨k, p, s, σ, hin.2.2.2.2 (by omega), by omega, a, Or.inr (Or.inl ⟨r, h1, h2, h3, h4, h5⟩)⟩⟩
    · subst h4; subst h5
      obtain ⟨m, s1, i1, i2, i3⟩ := ih
      exact ⟨m + 1, s1, i1, .c i2 h2 h3 (by unfold Ar; rw [if_pos rfl]; exact h6), i3⟩
theorem ASn_FR {w : Nat → Nat} {H nr nh p0 s0 k p m s1 s : Nat} (h : ASn w nh true p m s1 s) : FR w H nr nh p0 s0 k p s1 → FR w H nr nh p0 s0 k p s := by
  induction h using ASn_ind with
  | z => exact id
  | c a h1 h2 h3 ih =>
    intro z
    unfold Ar at h3
    rw [if_pos rfl] at h3
    exact .c (ih z) (Or.inr (Or.inr ⟨_, rfl, h1, h2, rfl, rfl, h3⟩))
/-- home: first asks, behind them the end or a step of another kind -/
theorem CB_asks {w : Nat → Nat} (hV : WV w) {H nr nh t e k p s : Nat} (h : CB w H nr nh t e k p s) : s < 32 → ∃ m s1, s1 < 32 ∧ ASn w nh false p m s1 s ∧ ((k = e ∧ p = 0 ∧ s1.testBit t = true) ∨ ∃ k1 p1 s2 σ, k < k1 ∧ σ < 11 ∧ CB w H nr nh t e k1 p1 s2 ∧ Sp w H nr nh σ k p s1 k1 p1 s2) := by
  have h9 := hV.2.1
  induction h using CB_ind with
  | z h => intro hs; exact ⟨0, _, hs, .z _, Or.inl ⟨rfl, rfl, h⟩⟩
  | @c σ k p s k' p' s' b a ih =>
    intro hs
    have hin := Sp_in hV hs b
    rcases b with b | b | ⟨g, h1, h2, h3, h4, h5, h6⟩
    · exact ⟨0, s, hs, .z _, Or.inr ⟨k', p', s', 0, by omega, by omega, a, Or.inl ⟨rfl, b.2⟩⟩⟩
    · obtain ⟨r, h1, h2, h3, h4, h5⟩ := b
      exact ⟨0, s, hs, .z _, Or.inr ⟨k', p', s', σ, hin.2.2.2.2 (by omega), by omega, a, Or.inr (Or.inl ⟨r, h1, h2, h3, h4, h5⟩)⟩⟩
    · subst h4; subst h5
      obtain ⟨m, s1, i1, i2, i3⟩ := ih hin.2.2.1
      exact ⟨m + 1, s1, i1, .c i2 h2 h3 (by unfold Ar; rw [if_neg (by decide)]; exact h6), i3⟩
theorem ASn_CB {w : Nat → Nat} {H nr nh t e k p m s1 s : Nat} (h : ASn w nh false p m s1 s) : CB w H nr nh t e k p s1 → CB w H nr nh t e k p s := by
  induction h using ASn_ind with
  | z => exact id
  | c a h1 h2 h3 ih =>
    intro z
    unfold Ar at h3
    rw [if_neg (by decide)] at h3
    exact .c (Or.inr (Or.inr ⟨_, rfl, h1, h2, rfl, rfl, h3⟩)) (ih z)
/-- an hour's sets, from one hour to another -/
theorem copyF {w : Nat → Nat} {vW vS : Ob} (hV : WV w) (hC : WC w vW) (V : Ob) {e : Nat} (x1 x2 x3 : Int32) (he : e ≤ 60) : ∀ (n i : Nat) (f : Nat → Int32), i ≤ w 0 → w 0 - i < n →
    ∃ g, m_X3_fewestHours_L68 vW vS n (upR V 3 f) x1 x2 x3 (nI e) (nI i) = some (upR V 3 g, x1, x2, x3, nI e) ∧ ∀ k p s, p < 7 → s < 32 → (TB g k p s = true ↔ (TB f k p s = true ∨ (k = e + 1 ∧ e + 1 ≤ 60 ∧ i ≤ p ∧ p < w 0 ∧ TB f e p s = true)))
  | 0, i, f, hi, hn => by omega
  | n + 1, i, f, hi, hn => by
    have h7 := hV.1
    show ∃ g, m_X3_fewestHours_L68B vW vS (m_X3_fewestHours_L68 vW vS n) (upR V 3 f) x1 x2 x3 (nI e) (nI i) = _ ∧ _
    unfold m_X3_fewestHours_L68B
    rw [hC.1]
    by_cases hlt : i < w 0
    · rw [if_neg (nI_ge hlt (by omega)), setsAt_e V f (by omega) (by omega), bnd_s, nI_1, addSets_e V f (by omega) (by omega), bnd_s, nI_1]
      obtain ⟨g, g1, g2⟩ := copyF hV hC V x1 x2 x3 he n (i + 1) (ad f (e + 1) i (gt f e i)) (by omega) (by omega)
      refine ⟨g, g1, fun k p s hp hs => ?_⟩
      rw [g2 k p s hp hs, TB_ad f (by omega) hp, TB_ad f (by omega) hp, bt_gt]
      constructor
      · rintro ((z | ⟨z1, z2, z3, z4⟩) | ⟨z1, z2, z3, z4, z | ⟨z5, -⟩⟩)
        · exact Or.inl z
        · subst z2; exact Or.inr ⟨z1, z3, Nat.le_refl _, hlt, z4⟩
        · exact Or.inr ⟨z1, z2, by omega, z4, z⟩
        · omega
      · rintro (z | ⟨z1, z2, z3, z4, z5⟩)
        · exact Or.inl (Or.inl z)
        · by_cases hpi : p = i
          · subst hpi; exact Or.inl (Or.inr ⟨z1, rfl, z2, z5⟩)
          · exact Or.inr ⟨z1, z2, by omega, z4, Or.inl z5⟩
    · rw [if_pos (nI_le (by omega) (by omega))]
      refine ⟨f, rfl, fun k p s hp hs => ⟨Or.inl, ?_⟩⟩
      rintro (z | ⟨z1, z2, z3, z4, z5⟩)
      · exact z
      · omega
theorem copyB {w : Nat → Nat} {vW vS : Ob} (hV : WV w) (hC : WC w vW) (V : Ob) {e : Nat} (he : e ≤ 60) : ∀ (n i : Nat) (f : Nat → Int32), i ≤ w 0 → w 0 - i < n →
    ∃ g, m_X3_fillBackward_L27 vW vS n (upR V 3 f) (nI e) (nI i) = some (upR V 3 g, nI e) ∧ ∀ k p s, p < 7 → s < 32 → (TB g k p s = true ↔ (TB f k p s = true ∨ (k = e ∧ i ≤ p ∧ p < w 0 ∧ TB f (e + 1) p s = true)))
  | 0, i, f, hi, hn => by omega
  | n + 1, i, f, hi, hn => by
    have h7 := hV.1
    show ∃ g, m_X3_fillBackward_L27B vW vS (m_X3_fillBackward_L27 vW vS n) (upR V 3 f) (nI e) (nI i) = _ ∧ _
    unfold m_X3_fillBackward_L27B
    rw [hC.1]
    by_cases hlt : i < w 0
    · rw [if_neg (nI_ge hlt (by omega)), nI_1, setsAt_e V f (by omega) (by omega), bnd_s, addSets_e V f (by omega) (by omega), bnd_s, nI_1]
      obtain ⟨g, g1, g2⟩ := copyB hV hC V he n (i + 1) (ad f e i (gt f (e + 1) i)) (by omega) (by omega)
      refine ⟨g, g1, fun k p s hp hs => ?_⟩
      rw [g2 k p s hp hs, TB_ad f (by omega) hp, TB_ad f (by omega) hp, bt_gt]
      constructor
      · rintro ((z | ⟨z1, z2, z3, z4⟩) | ⟨z1, z3, z4, z | ⟨z5, -⟩⟩)
        · exact Or.inl z
        · subst z2; exact Or.inr ⟨z1, Nat.le_refl _, hlt, z4⟩
        · exact Or.inr ⟨z1, by omega, z4, z⟩
        · omega
      · rintro (z | ⟨z1, z3, z4, z5⟩)
        · exact Or.inl (Or.inl z)
        · by_cases hpi : p = i
          · subst hpi; exact Or.inl (Or.inr ⟨z1, rfl, he, z5⟩)
          · exact Or.inr ⟨z1, by omega, z4, Or.inl z5⟩
    · rw [if_pos (nI_le (by omega) (by omega))]
      refine ⟨f, rfl, fun k p s hp hs => ⟨Or.inl, ?_⟩⟩
      rintro (z | ⟨z1, z3, z4, z5⟩)
      · exact z
      · omega
def Hm (w : Nat → Nat) (H nr nh p0 s0 t e : Nat) : Prop := ∃ s, FR w H nr nh p0 s0 e 0 s ∧ s.testBit t = true
theorem and0 (x y : Int32) : x &&& y = 0 ↔ ∀ s, s < 32 → ¬ (bt x s = true ∧ bt y s = true) := by
  constructor
  · intro h s hs z
    have := congrArg (fun v => bt v s) h
    simp only [b_and, b_0, z.1, z.2] at this
    cases this
  · intro h
    apply b_ext
    intro i hi
    rw [b_and, b_0]
    have := h i hi
    cases h1 : bt x i <;> cases h2 : bt y i <;> simp_all
/-- a step of another kind than an ask, in the table's words -/
theorem Sp_W {w : Nat → Nat} (hV : WV w) {H nr nh k p s k' p' s' r : Nat} : (∃ r, r < w 1 ∧ r ≠ nr ∧ k' = k + w (43 + r) ∧ sWalk w r p (H + k') s = some (p', s')) ↔ ∃ r, r < w 1 ∧ r ≠ nr ∧ k' = k + w (43 + r) ∧ ((p = w (25 + r) ∧ p' = w (34 + r) ∧ sEnt w (w (34 + r)) (H + k') s = some s') ∨ (p = w (34 + r) ∧ p' = w (25 + r) ∧ sEnt w (w (25 + r)) (H + k') s = some s')) := by
  constructor
  · rintro ⟨r, h1, h2, h3, h4⟩; exact ⟨r, h1, h2, h3, (sWalk_iff hV h1).mp h4⟩
  · rintro ⟨r, h1, h2, h3, h4⟩; exact ⟨r, h1, h2, h3, (sWalk_iff hV h1).mpr h4⟩
theorem fewL {w : Nat → Nat} {vW vS : Ob} (hV : WV w) (hC : WC w vW) (V : Ob) {H nr nh p0 s0 t : Nat} (hH : H ≤ 9999) (hS : vS 0 1 = nI H) (hp0 : p0 < 7) (hs0 : s0 < 32) (ht : t < 5) : ∀ (n e : Nat) (f : Nat → Int32), e ≤ 61 → 61 - e < n →
    (∀ k p s, p < 7 → s < 32 → TB f k p s = true → FR w H nr nh p0 s0 k p s) → (e = 0 → TB f 0 p0 s0 = true) → (∀ k1 p1 s1 k p s σ, k1 < e → e ≤ k → k ≤ 60 → σ < 11 → FR w H nr nh p0 s0 k1 p1 s1 → Sp w H nr nh σ k1 p1 s1 k p s → TB f k p s = true) → (∀ e', e' < e → ¬ Hm w H nr nh p0 s0 t e') →
    ∃ g, ((∃ e', e' ≤ 60 ∧ m_X3_fewestHours_L32 vW vS n (upR V 3 f) (nI t) (nbI nr) (nbI nh) (nI e) = some (Sum.inl (nI e', upR V 3 g)) ∧ Hm w H nr nh p0 s0 t e' ∧ ∀ e'', e'' < e' → ¬ Hm w H nr nh p0 s0 t e'') ∨ (m_X3_fewestHours_L32 vW vS n (upR V 3 f) (nI t) (nbI nr) (nbI nh) (nI e) = some (Sum.inr (upR V 3 g)) ∧ ∀ e', e' ≤ 60 → ¬ Hm w H nr nh p0 s0 t e'))
  | 0, e, f, he, hn, _, _, _, _ => by omega
  | n + 1, e, f, he, hn, k1, k2, k3, k4 => by
    have h7 := hV.1
    have h9 := hV.2.1
    have hdef : m_X3_fewestHours_L32 vW vS (n + 1) (upR V 3 f) (nI t) (nbI nr) (nbI nh) (nI e) = m_X3_fewestHours_L32B vW vS (m_X3_fewestHours_L32 vW vS n) (upR V 3 f) (nI t) (nbI nr) (nbI nh) (nI e) := rfl
    rw [hdef]
    unfold m_X3_fewestHours_L32B
    rw [show (60 : Int32) = nI 60 from rfl]
    by_cases h60 : e = 61
    · subst h60
      rw [if_pos (nI_lt (by omega) (by omega))]
      exact ⟨f, Or.inr ⟨rfl, fun e' h => k4 e' (by omega)⟩⟩
    · have he60 : e ≤ 60 := by omega
      rw [if_neg (nI_nlt he60 (by omega))]
      obtain ⟨f1, a1, a2, a3⟩ := spreadA hV hC V he60 true f (nh := nh)
      have a1' : m_X3_spreadAsks (upR V 3 f) vW (nI e) 1 (nbI nh) = some (upR V 3 f1) := a1
      have full : ∀ p s, p < 7 → s < 32 → (TB f1 e p s = true ↔ FR w H nr nh p0 s0 e p s) := by
        intro p s hp hs
        rw [a3 p s hp hs]
        constructor
        · rintro ⟨m, s1, z1, z2, z3⟩
          exact ASn_FR z3 (k1 e p s1 hp z1 z2)
        · intro z
          obtain ⟨m, s1, z1, z2, z3⟩ := FR_asks hV hp0 hs0 z
          refine ⟨m, s1, z1, ?_, z2⟩
          rcases z3 with ⟨y1, y2, y3⟩ | ⟨q1, q2, q3, σ, y1, y2, y3, y4⟩
          · subst y2; subst y3; subst y1; exact k2 rfl
          · exact k3 q1 q2 q3 e p s1 σ y1 (Nat.le_refl _) he60 y2 y3 y4
      have s1 : ∀ k p s, p < 7 → s < 32 → TB f1 k p s = true → FR w H nr nh p0 s0 k p s := by
        intro k p s hp hs hz
        by_cases hk : k = e
        · subst hk; exact (full p s hp hs).mp hz
        · rw [a2 k p s hp hs hk] at hz; exact k1 k p s hp hs hz
      rw [a1', bnd_s, show (0 : Int32) = nI 0 from rfl, setsAt_e V f1 (by omega) (by omega), bnd_s, having (by omega), bnd_s]
      have hhome : (gt f1 e 0 &&& hav t = nI 0) ↔ ¬ Hm w H nr nh p0 s0 t e := by
        rw [nI_0, and0]
        constructor
        · rintro h ⟨s, z1, z2⟩
          have hs := (FR_in hV hp0 hs0 z1).2
          exact h s hs ⟨by rw [bt_gt]; exact (full 0 s (by omega) hs).mpr z1, (hav_b (Or.inl ht) hs).mpr (Or.inr z2)⟩
        · intro h s hs z
          rw [bt_gt] at z
          rcases (hav_b (Or.inl ht) hs).mp z.2 with y | y
          · omega
          · exact h ⟨s, (full 0 s (by omega) hs).mp z.1, y⟩
      by_cases hm : Hm w H nr nh p0 s0 t e
      · rw [if_neg (fun z => hhome.mp z hm)]
        exact ⟨f1, Or.inl ⟨e, he60, rfl, hm, k4⟩⟩
      · rw [if_pos (hhome.mpr hm)]
        obtain ⟨f2, b1, b2⟩ := copyF (vS := vS) hV hC V (nI t) (nbI nr) (nbI nh) he60 FU 0 f1 (by omega) (by unfold FU; omega)
        rw [b1, bnd_s]
        obtain ⟨f3, c1, c2⟩ := spreadW hV hC V f2 hH hS he60 true (nr := nr)
        have c1' : m_X3_spreadWalks (upR V 3 f2) vW vS (nI e) 1 (nbI nr) = some (upR V 3 f3) := c1
        dsimp only
        rw [c1', bnd_s, nI_1]
        have f2e : ∀ p s, p < 7 → s < 32 → (TB f2 e p s = true ↔ TB f1 e p s = true) := by
          intro p s hp hs
          rw [b2 e p s hp hs]
          exact ⟨fun z => z.elim id (fun y => by omega), Or.inl⟩
        refine fewL hV hC V hH hS hp0 hs0 ht n (e + 1) f3 (by omega) (by omega) ?_ (fun z => by omega) ?_ ?_
        · intro k p s hp hs hz
          rcases (c2 k p s hp hs).mp hz with z | ⟨r, z1, z2, z3, z4⟩
          · rcases (b2 k p s hp hs).mp z with y | ⟨y1, y2, y3, y4, y5⟩
            · exact s1 k p s hp hs y
            · subst y1
              exact .c (σ := 0) (s1 e p s hp hs y5) (Or.inl ⟨rfl, y4, rfl, rfl, rfl⟩)
          · obtain ⟨ha, hb, -, -, -⟩ := hV.2.2.2.2.2.2.1 r z1
            unfold W1 at z4
            rw [if_pos rfl, if_pos rfl] at z4
            rcases z4 with ⟨y1, y2, s2, y3, y4, y5⟩ | ⟨y1, y2, s2, y3, y4, y5⟩
            · refine .c (σ := 1 + r) (s1 e _ s2 (by omega) y3 ((f2e _ _ (by omega) y3).mp y4)) (Or.inr (Or.inl ⟨r, rfl, z1, z2, y1, (sWalk_iff hV z1).mpr (Or.inl ⟨rfl, y2, by rw [y1]; exact y5⟩)⟩))
            · refine .c (σ := 1 + r) (s1 e _ s2 (by omega) y3 ((f2e _ _ (by omega) y3).mp y4)) (Or.inr (Or.inl ⟨r, rfl, z1, z2, y1, (sWalk_iff hV z1).mpr (Or.inr ⟨rfl, y2, by rw [y1]; exact y5⟩)⟩))
        · intro q1 q2 q3 k p s σ hq hk hk60 hσ hF hSt
          have hin := FR_in hV hp0 hs0 hF
          have hst := Sp_in hV hin.2 hSt
          have hp : p < 7 := by omega
          by_cases hq1 : q1 = e
          · subst hq1
            rcases hSt with ⟨y1, y2, y3, y4, y5⟩ | ⟨r, y1, y2, y3, y4, y5⟩ | ⟨h, y1, -⟩
            · subst y3; subst y4; subst y5
              exact (c2 _ _ _ hp hin.2).mpr (Or.inl ((b2 _ _ _ hp hin.2).mpr (Or.inr ⟨rfl, hk60, Nat.zero_le _, y2, (full _ _ hin.1 hin.2).mpr hF⟩)))
            · refine (c2 _ _ _ hp hst.2.2.1).mpr (Or.inr ⟨r, y2, y3, by omega, ?_⟩)
              unfold W1
              rw [if_pos rfl, if_pos rfl]
              rcases (sWalk_iff hV y2).mp y5 with ⟨x1, x2, x3⟩ | ⟨x1, x2, x3⟩
              · exact Or.inl ⟨y4, x2, q3, hin.2, (f2e _ _ (by omega) hin.2).mpr ((full _ _ (by omega) hin.2).mpr (x1 ▸ hF)), by rw [← y4]; exact x3⟩
              · exact Or.inr ⟨y4, x2, q3, hin.2, (f2e _ _ (by omega) hin.2).mpr ((full _ _ (by omega) hin.2).mpr (x1 ▸ hF)), by rw [← y4]; exact x3⟩
            · omega
          · have := k3 q1 q2 q3 k p s σ (by omega) (by omega) hk60 hσ hF hSt
            rw [← a2 k p s hp hst.2.2.1 (by omega)] at this
            exact (c2 _ _ _ hp hst.2.2.1).mpr (Or.inl ((b2 _ _ _ hp hst.2.2.1).mpr (Or.inl this)))
        · intro e' he'
          by_cases h : e' = e
          · subst h; exact hm
          · exact k4 e' (by omega)
theorem sh1s {s : Nat} (hs : s < 32) : ∀ i, i < 32 → bt ((1 : Int32) <<< (nI s &&& 31)) i = decide (i = s) := by
  intro i hi
  rw [b_shl s hs 1 hi]
  by_cases h : i = s
  · subst h; simp; decide
  · rw [decide_eq_false h]
    by_cases h2 : s ≤ i
    · rw [decide_eq_true h2, Bool.true_and, (by decide +kernel : ∀ i, i < 32 → bt 1 i = decide (i = 0)) (i - s) (by omega), decide_eq_false (by omega)]
    · rw [decide_eq_false h2, Bool.false_and]
theorem fewest {w : Nat → Nat} {vW vS : Ob} (hV : WV w) (hC : WC w vW) (V : Ob) {H p0 s0 t : Nat} (nr nh : Nat) (hH : H ≤ 9999) (hS0 : vS 0 0 = nI p0) (hS : vS 0 1 = nI H) (hS2 : vS 0 2 = nI s0) (hp0 : p0 < 7) (hs0 : s0 < 32) (ht : t < 5) :
    ∃ g, (∃ e, e ≤ 60 ∧ m_X3_fewestHours V vW vS (nI t) (nbI nr) (nbI nh) = some (nI e, upR V 3 g) ∧ Hm w H nr nh p0 s0 t e ∧ ∀ e', e' < e → ¬ Hm w H nr nh p0 s0 t e') ∨ (m_X3_fewestHours V vW vS (nI t) (nbI nr) (nbI nh) = some (-9, upR V 3 g) ∧ ∀ e, e ≤ 60 → ¬ Hm w H nr nh p0 s0 t e) := by
  obtain ⟨f, f1, f2⟩ := fillC (V 3)
  have hb : ∀ k p s, p < 7 → s < 32 → (TB (ad f 0 p0 ((1 : Int32) <<< (nI s0 &&& 31))) k p s = true ↔ (k = 0 ∧ p = p0 ∧ s = s0)) := by
    intro k p s hp hs
    rw [TB_ad f hp0 hp, f2 k p s hp, sh1s hs0 s hs]
    simp only [decide_eq_true_eq]
    constructor
    · rintro (z | ⟨z1, z2, z3, z4⟩)
      · cases z
      · exact ⟨z1, z2, z4⟩
    · rintro ⟨z1, z2, z3⟩
      exact Or.inr ⟨z1, z2, by omega, z3⟩
  obtain ⟨g, hg⟩ := fewL hV hC V (nr := nr) (nh := nh) hH hS hp0 hs0 ht FU 0 (ad f 0 p0 ((1 : Int32) <<< (nI s0 &&& 31))) (by omega) (by unfold FU; omega) (fun k p s hp hs hz => by
      obtain ⟨z1, z2, z3⟩ := (hb k p s hp hs).mp hz
      subst z1; subst z2; subst z3
      exact .z) (fun _ => (hb 0 p0 s0 hp0 hs0).mpr ⟨rfl, rfl, rfl⟩) (fun k1 p1 s1 k p s σ h => by omega) (fun e' h => by omega)
  have hdef : m_X3_fewestHours V vW vS (nI t) (nbI nr) (nbI nh) = ((m_X3_fewestHours_L32 vW vS FU (upR V 3 (ad f 0 p0 ((1 : Int32) <<< (nI s0 &&& 31)))) (nI t) (nbI nr) (nbI nh) 0).bind fun o32_2 => Sum.elim (fun r => some r) (fun o32_2x => some ((-9 : Int32), o32_2x)) o32_2) := by
    unfold m_X3_fewestHours
    rw [f1, bnd_s, hS0, hS2, show (0 : Int32) = nI 0 from rfl, addSets_e V f (by omega) hp0, bnd_s]
  rw [hdef]
  refine ⟨g, ?_⟩
  rcases hg with ⟨e, h1, h2, h3, h4⟩ | ⟨h1, h2⟩
  · have h2' : m_X3_fewestHours_L32 vW vS FU (upR V 3 (ad f 0 p0 ((1 : Int32) <<< (nI s0 &&& 31)))) (nI t) (nbI nr) (nbI nh) 0 = _ := h2
    exact Or.inl ⟨e, h1, by rw [h2', bnd_s, sm_l], h3, h4⟩
  · have h1' : m_X3_fewestHours_L32 vW vS FU (upR V 3 (ad f 0 p0 ((1 : Int32) <<< (nI s0 &&& 31)))) (nI t) (nbI nr) (nbI nh) 0 = _ := h1
    exact Or.inr ⟨by rw [h1', bnd_s, sm_r], h2⟩
end
