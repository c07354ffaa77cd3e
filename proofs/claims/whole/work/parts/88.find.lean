section
/-! PURE: the class finds the way -/
/-- the class at a moment of the way -/
def At (V : Ob) (g : Nat → Int32) (k p s : Nat) (E : Ob) : Prop := E 3 = g ∧ E 0 11 = nI p ∧ E 0 12 = nI k ∧ E 0 13 = nI s ∧ E 0 7 = V 0 7
theorem walkHome {w : Nat → Nat} {vW vS E V : Ob} (hV : WV w) (hC : WC w vW) {g : Nat → Int32} {H t e k p s r : Nat} (hH : H ≤ 9999) (hS : vS 0 1 = nI H) (hE : At V g k p s E) (hk : k ≤ 60) (hp : p < 7) (hs : s < 32) (hr : r < w 1) (hg : ∀ k p s, p < 7 → s < 32 → (TB g k p s = true ↔ CB w H 99 99 t e k p s)) :
    ∃ b : Bool, m_X3_isWalkHomeward E vW vS (nI r) = some (if b = true then 1 else 0) ∧ (b = true ↔ ∃ k' q s', Sp w H 99 99 (1 + r) k p s k' q s' ∧ CB w H 99 99 t e k' q s') := by
  have h7 := hV.1
  have h9 := hV.2.1
  obtain ⟨ha, hb, hab, hl1, hl9⟩ := hV.2.2.2.2.2.2.1 r hr
  obtain ⟨e1, e2, e3, e4, e5⟩ := hE
  have spec : ∀ k' q s', Sp w H 99 99 (1 + r) k p s k' q s' ↔ (k' = k + w (43 + r) ∧ sWalk w r p (H + k') s = some (q, s')) := by
    intro k' q s'
    constructor
    · rintro (⟨z, -⟩ | ⟨r', z1, z2, z3, z4, z5⟩ | ⟨h, z1, -⟩)
      · omega
      · have : r' = r := by omega
        subst this
        exact ⟨z4, z5⟩
      · omega
    · rintro ⟨z1, z2⟩
      exact Or.inr (Or.inl ⟨r, rfl, hr, by omega, z1, z2⟩)
  unfold m_X3_isWalkHomeward
  rw [e2, e3, e4, farEndC hV hC hr (by omega), bnd_s, roadHours_y hV hC hr, bnd_s, hS, nI_add, nI_add]
  cases hf : sFar w r p with
  | none =>
    dsimp only
    rw [if_pos rfl]
    refine ⟨false, rfl, ⟨fun z => (by cases z), ?_⟩⟩
    rintro ⟨k', q, s', z1, -⟩
    obtain ⟨-, z2⟩ := (spec _ _ _).mp z1
    unfold sWalk at z2
    rw [hf] at z2
    cases z2
  | some q =>
    have hq := sFar_lt hV hr hf
    dsimp only
    rw [if_neg (nI_n9 (by omega)), letsInC hV hC hq (by omega) hs, bnd_s, if_bi]
    cases he : sEnt w q (H + (k + w (43 + r))) s with
    | none =>
      rw [if_neg (by decide)]
      refine ⟨false, rfl, ⟨fun z => (by cases z), ?_⟩⟩
      rintro ⟨k', q', s', z1, -⟩
      obtain ⟨z3, z2⟩ := (spec _ _ _).mp z1
      subst z3
      unfold sWalk at z2
      rw [hf] at z2
      simp only [Option.bind_some, he] at z2
      cases z2
    | some s' =>
      have hs' := sEnt_lt hV hq hs he
      rw [if_pos (show (some s').isSome = true from rfl), thingsInsideC hV hC hq hs he, bnd_s, canBeHome_e V g (by omega) (by omega) hs' E e1, bnd_s, if_bi]
      have hw : sWalk w r p (H + (k + w (43 + r))) s = some (q, s') := by
        unfold sWalk
        rw [hf]
        simp only [Option.bind_some, he]; rfl
      refine ⟨TB g (k + w (43 + r)) q s', ?_, ?_⟩
      · cases TB g (k + w (43 + r)) q s' <;> rfl
      · rw [hg _ q s' (by omega) hs']
        constructor
        · intro z; exact ⟨_, q, s', (spec _ _ _).mpr ⟨rfl, hw⟩, z⟩
        · rintro ⟨k', q', s'', z1, z2⟩
          obtain ⟨z3, z4⟩ := (spec _ _ _).mp z1
          subst z3
          rw [hw] at z4
          cases z4
          exact z2
theorem askHome {w : Nat → Nat} {vW E V : Ob} (hV : WV w) (hC : WC w vW) {g : Nat → Int32} {H t e k p s h : Nat} (hE : At V g k p s E) (hk : k ≤ 60) (hp : p < 7) (hs : s < 32) (hh : h < w 2) (hg : ∀ k p s, p < 7 → s < 32 → (TB g k p s = true ↔ CB w H 99 99 t e k p s)) :
    ∃ b : Bool, m_X3_isAskHomeward E vW (nI h) = some (if b = true then 1 else 0) ∧ (b = true ↔ ∃ k' q s', Sp w H 99 99 (11 + h) k p s k' q s' ∧ CB w H 99 99 t e k' q s') := by
  have h7 := hV.1
  have h6 := hV.2.2.1
  have h9 := hV.2.1
  obtain ⟨hp', hg5, ha⟩ := hV.2.2.2.2.2.2.2 h hh
  obtain ⟨e1, e2, e3, e4, e5⟩ := hE
  have spec : ∀ k' q s', Sp w H 99 99 (11 + h) k p s k' q s' ↔ (k' = k ∧ q = p ∧ sGive w h p s = some s') := by
    intro k' q s'
    constructor
    · rintro (⟨z, -⟩ | ⟨r', z1, z2, z3, z4, z5⟩ | ⟨h', z1, z2, z3, z4, z5, z6⟩)
      · omega
      · omega
      · have : h' = h := by omega
        subst this
        exact ⟨z4, z5, z6⟩
    · rintro ⟨z1, z2, z3⟩
      exact Or.inr (Or.inr ⟨h, rfl, hh, by omega, z1, z2, z3⟩)
  unfold m_X3_isAskHomeward
  rw [e2, e3, e4, isGivenC hV hC hh (by omega) hs, bnd_s, if_bi]
  cases hgv : sGive w h p s with
  | none =>
    rw [if_neg (by decide)]
    refine ⟨false, rfl, ⟨fun z => (by cases z), ?_⟩⟩
    rintro ⟨k', q, s', z1, -⟩
    obtain ⟨-, -, z2⟩ := (spec _ _ _).mp z1
    rw [hgv] at z2; cases z2
  | some s' =>
    obtain ⟨g1, g2, -⟩ := sGive_eq hgv
    have hs' := (sGive_in hV hh hs hgv).1
    rw [if_pos (show (some s').isSome = true from rfl), hostGives_y hV hC hh, bnd_s, gv_small s hs _ hg5 g1, ← g2, canBeHome_e V g (by omega) hp hs' E e1, bnd_s, if_bi]
    refine ⟨TB g k p s', ?_, ?_⟩
    · cases TB g k p s' <;> rfl
    · rw [hg k p s' hp hs']
      constructor
      · intro z; exact ⟨k, p, s', (spec _ _ _).mpr ⟨rfl, rfl, hgv⟩, z⟩
      · rintro ⟨k', q', s'', z1, z2⟩
        obtain ⟨z3, z4, z5⟩ := (spec _ _ _).mp z1
        subst z3; subst z4
        rw [hgv] at z5
        cases z5
        exact z2
/-- from where which steps lead home -/
def OK (w : Nat → Nat) (H t e k p s σ : Nat) : Prop := ∃ k' q s', Sp w H 99 99 σ k p s k' q s' ∧ CB w H 99 99 t e k' q s'
theorem next49 {w : Nat → Nat} {vW vS E V : Ob} (hV : WV w) (hC : WC w vW) {g : Nat → Int32} {H t e k p s : Nat} (hH : H ≤ 9999) (hS : vS 0 1 = nI H) (hE : At V g k p s E) (hk : k ≤ 60) (hp : p < 7) (hs : s < 32) (hg : ∀ k p s, p < 7 → s < 32 → (TB g k p s = true ↔ CB w H 99 99 t e k p s)) : ∀ (n i : Nat), i ≤ w 1 → w 1 - i < n →
    (∃ r, i ≤ r ∧ r < w 1 ∧ OK w H t e k p s (1 + r) ∧ (∀ r', i ≤ r' → r' < r → ¬ OK w H t e k p s (1 + r')) ∧ m_X3_nextStep_L49 E vW vS n (nI i) = some (Sum.inl (nI (1 + r)))) ∨ ((∀ r, i ≤ r → r < w 1 → ¬ OK w H t e k p s (1 + r)) ∧ m_X3_nextStep_L49 E vW vS n (nI i) = some (Sum.inr ()))
  | 0, i, hi, hn => by omega
  | n + 1, i, hi, hn => by
    have h9 := hV.2.1
    have hdef : m_X3_nextStep_L49 E vW vS (n + 1) (nI i) = m_X3_nextStep_L49B E vW vS (m_X3_nextStep_L49 E vW vS n) (nI i) := rfl
    rw [hdef]
    unfold m_X3_nextStep_L49B
    rw [hC.2.1]
    by_cases hlt : i < w 1
    · rw [if_neg (nI_ge hlt (by omega))]
      obtain ⟨b, q1, q2⟩ := walkHome hV hC hH hS hE hk hp hs hlt hg
      rw [q1, bnd_s]
      cases b with
      | true =>
        rw [if_neg (by decide)]
        exact Or.inl ⟨i, Nat.le_refl _, hlt, q2.mp rfl, fun r' z1 z2 => by omega, by rw [show (1 : Int32) = nI 1 from rfl, nI_add]⟩
      | false =>
        have hno : ¬ OK w H t e k p s (1 + i) := fun z => by have := q2.mpr z; cases this
        rw [if_pos (by decide), nI_1]
        rcases next49 hV hC hH hS hE hk hp hs hg n (i + 1) (by omega) (by omega) with ⟨r, z1, z2, z3, z4, z5⟩ | ⟨z1, z2⟩
        · refine Or.inl ⟨r, by omega, z2, z3, fun r' y1 y2 => ?_, z5⟩
          by_cases h : r' = i
          · subst h; exact hno
          · exact z4 r' (by omega) y2
        · refine Or.inr ⟨fun r y1 y2 => ?_, z2⟩
          by_cases h : r = i
          · subst h; exact hno
          · exact z1 r (by omega) y2
    · rw [if_pos (nI_le (by omega) (by omega))]
      exact Or.inr ⟨fun r z1 z2 => by omega, rfl⟩
theorem next80 {w : Nat → Nat} {vW vS E V : Ob} (hV : WV w) (hC : WC w vW) {g : Nat → Int32} {H t e k p s : Nat} (hE : At V g k p s E) (hk : k ≤ 60) (hp : p < 7) (hs : s < 32) (hg : ∀ k p s, p < 7 → s < 32 → (TB g k p s = true ↔ CB w H 99 99 t e k p s)) : ∀ (n i : Nat), i ≤ w 2 → w 2 - i < n →
    (∃ r, i ≤ r ∧ r < w 2 ∧ OK w H t e k p s (11 + r) ∧ (∀ r', i ≤ r' → r' < r → ¬ OK w H t e k p s (11 + r')) ∧ m_X3_nextStep_L80 E vW vS n (nI i) = some (Sum.inl (nI (11 + r)))) ∨ ((∀ r, i ≤ r → r < w 2 → ¬ OK w H t e k p s (11 + r)) ∧ m_X3_nextStep_L80 E vW vS n (nI i) = some (Sum.inr ()))
  | 0, i, hi, hn => by omega
  | n + 1, i, hi, hn => by
    have h6 := hV.2.2.1
    have hdef : m_X3_nextStep_L80 E vW vS (n + 1) (nI i) = m_X3_nextStep_L80B E vW vS (m_X3_nextStep_L80 E vW vS n) (nI i) := rfl
    rw [hdef]
    unfold m_X3_nextStep_L80B
    rw [hC.2.2.1]
    by_cases hlt : i < w 2
    · rw [if_neg (nI_ge hlt (by omega))]
      obtain ⟨b, q1, q2⟩ := askHome hV hC hE hk hp hs hlt hg
      rw [q1, bnd_s]
      cases b with
      | true =>
        rw [if_neg (by decide)]
        exact Or.inl ⟨i, Nat.le_refl _, hlt, q2.mp rfl, fun r' z1 z2 => by omega, by rw [show (11 : Int32) = nI 11 from rfl, nI_add]⟩
      | false =>
        have hno : ¬ OK w H t e k p s (11 + i) := fun z => by have := q2.mpr z; cases this
        rw [if_pos (by decide), nI_1]
        rcases next80 (vS := vS) hV hC hE hk hp hs hg n (i + 1) (by omega) (by omega) with ⟨r, z1, z2, z3, z4, z5⟩ | ⟨z1, z2⟩
        · refine Or.inl ⟨r, by omega, z2, z3, fun r' y1 y2 => ?_, z5⟩
          by_cases h : r' = i
          · subst h; exact hno
          · exact z4 r' (by omega) y2
        · refine Or.inr ⟨fun r y1 y2 => ?_, z2⟩
          by_cases h : r = i
          · subst h; exact hno
          · exact z1 r (by omega) y2
    · rw [if_pos (nI_le (by omega) (by omega))]
      exact Or.inr ⟨fun r z1 z2 => by omega, rfl⟩
theorem Lst_OK {w : Nat → Nat} {H t e σ k p s k' p' s' : Nat} (h : Lst w H t e σ k p s k' p' s') : OK w H t e k p s σ ∧ ∀ σ', σ' < σ → ¬ OK w H t e k p s σ' := ⟨⟨k', p', s', h.1, h.2.1⟩, fun σ' z1 ⟨k1, p1, s1, z2, z3⟩ => h.2.2 σ' k1 p1 s1 z1 z2 z3⟩
theorem OK_uniq {w : Nat → Nat} {H t e k p s a b : Nat} (h1 : OK w H t e k p s a) (h2 : ∀ x, x < a → ¬ OK w H t e k p s x) (h3 : OK w H t e k p s b) (h4 : ∀ x, x < b → ¬ OK w H t e k p s x) : a = b := by
  rcases Nat.lt_trichotomy a b with h | h | h
  · exact absurd h1 (h4 a h)
  · exact h
  · exact absurd h3 (h2 b h)
/-- the least step, as both find it: first the wait, then the roads, then the hosts -/
theorem nextC {w : Nat → Nat} {vW vS E V : Ob} (hV : WV w) (hC : WC w vW) {g : Nat → Int32} {H t e k p s σ k' p' s' : Nat} (hH : H ≤ 9999) (hS : vS 0 1 = nI H) (hE : At V g k p s E) (ht : t < 5) (h7t : V 0 7 = nI t) (he : e ≤ 60) (hp : p < 7) (hs : s < 32) (hg : ∀ k p s, p < 7 → s < 32 → (TB g k p s = true ↔ CB w H 99 99 t e k p s)) (hL : Lst w H t e σ k p s k' p' s') (hno : ¬ (p = 0 ∧ s.testBit t = true)) : m_X3_nextStep E vW vS = some (nI σ) := by
  have h7 := hV.1
  have h9 := hV.2.1
  have h6 := hV.2.2.1
  obtain ⟨o1, o2⟩ := Lst_OK hL
  have hk : k ≤ 60 := by
    have := CB_le hL.2.1
    have := (Sp_in hV hs hL.1).2.2.2.1
    omega
  have hpw := (Sp_in hV hs hL.1).1
  have hW : OK w H t e k p s 0 ↔ CB w H 99 99 t e (k + 1) p s := by
    constructor
    · rintro ⟨k1, q, s1, (⟨-, z1, z2, z3, z4⟩ | ⟨r, z1, -⟩ | ⟨h, z1, -⟩), y⟩
      · subst z2; subst z3; subst z4; exact y
      · omega
      · omega
    · intro z; exact ⟨k + 1, p, s, Or.inl ⟨rfl, hpw, rfl, rfl, rfl⟩, z⟩
  have j24 : m_X3_nextStep_j24 E vW vS = some (nI σ) := by
    unfold m_X3_nextStep_j24
    rw [hE.2.1, hE.2.2.1, hE.2.2.2.1, nI_1, canBeHome_e V g (by omega) hp hs E hE.1, bnd_s, if_bi]
    by_cases hw : OK w H t e k p s 0
    · rw [if_pos ((hg _ _ _ hp hs).mpr (hW.mp hw)), OK_uniq o1 o2 hw (fun x hx => by omega)]; rfl
    · rw [if_neg (fun z => hw (hW.mpr ((hg _ _ _ hp hs).mp z)))]
      rcases next49 (vW := vW) hV hC hH hS hE hk hp hs hg FU 0 (by omega) (by unfold FU; omega) with ⟨r, z1, z2, z3, z4, z5⟩ | ⟨z1, z2⟩
      · have z5' : m_X3_nextStep_L49 E vW vS FU 0 = _ := z5
        rw [z5', bnd_s, sm_l, OK_uniq o1 o2 z3 (fun x hx => by
          rcases Nat.eq_zero_or_pos x with y | y
          · subst y; exact hw
          · have := z4 (x - 1) (by omega) (by omega)
            rwa [show 1 + (x - 1) = x by omega] at this)]
      · have z2' : m_X3_nextStep_L49 E vW vS FU 0 = _ := z2
        rw [z2', bnd_s, sm_r]
        have low : ∀ x, x < 11 → ¬ OK w H t e k p s x := by
          intro x hx
          rcases Nat.eq_zero_or_pos x with y | y
          · subst y; exact hw
          · by_cases hx1 : x - 1 < w 1
            · have := z1 (x - 1) (by omega) hx1
              rwa [show 1 + (x - 1) = x by omega] at this
            · rintro ⟨k1, q, s1, (⟨y1, -⟩ | ⟨r, y1, y2, -⟩ | ⟨h, y1, -⟩), -⟩ <;> omega
        rcases next80 (vS := vS) hV hC hE hk hp hs hg FU 0 (by omega) (by unfold FU; omega) with ⟨r, y1, y2, y3, y4, y5⟩ | ⟨y1, y2⟩
        · have y5' : m_X3_nextStep_L80 E vW vS FU 0 = _ := y5
          rw [y5', bnd_s, sm_l, OK_uniq o1 o2 y3 (fun x hx => by
            by_cases h11 : x < 11
            · exact low x h11
            · have := y4 (x - 11) (by omega) (by omega)
              rwa [show 11 + (x - 11) = x by omega] at this)]
        · exfalso
          by_cases h11 : σ < 11
          · exact low σ h11 o1
          · obtain ⟨k1, q, s1, hsp, -⟩ := id o1
            rcases hsp with ⟨x1, -⟩ | ⟨r, x1, x2, -⟩ | ⟨h, x1, x2, -⟩
            · omega
            · omega
            · exact y1 h (by omega) x2 (x1 ▸ o1)
  unfold m_X3_nextStep
  rw [hE.2.1, hE.2.2.2.1, hE.2.2.2.2, h7t, show (0 : Int32) = nI 0 from rfl, if_nI (by omega) (by omega)]
  by_cases h0 : p = 0
  · have hb : ¬ s.testBit t = true := fun z => hno ⟨h0, z⟩
    rw [if_pos h0, hasThingC hs (Or.inl ht), bnd_s, if_neg (show ¬ (t = 9 ∨ s.testBit t = true) from fun z => z.elim (fun y => by omega) hb), if_pos (show (0 : Int32) = nI 0 from rfl)]
    exact j24
  · rw [if_neg h0]
    exact j24
theorem nextEnd {vW vS E V : Ob} {g : Nat → Int32} {t k s : Nat} (hE : At V g k 0 s E) (ht : t < 5) (h7t : V 0 7 = nI t) (hs : s < 32) (hb : s.testBit t = true) : m_X3_nextStep E vW vS = some (-9) := by
  unfold m_X3_nextStep
  rw [hE.2.1, hE.2.2.2.1, hE.2.2.2.2, h7t, if_pos (show nI 0 = 0 from rfl), hasThingC hs (Or.inl ht), bnd_s, if_pos (Or.inr hb), if1]
theorem isWalk_e {σ : Nat} (h : σ < 2 ^ 20) : m_X3_isWalk (nI σ) = some (if 1 ≤ σ ∧ σ < 11 then 1 else 0) := by
  unfold m_X3_isWalk
  rw [show (1 : Int32) = nI 1 from rfl, show (11 : Int32) = nI 11 from rfl]
  by_cases h1 : σ < 1
  · rw [if_pos (nI_lt h1 (by omega)), if_neg (by omega)]
  · rw [if_neg (nI_nlt (by omega) (by omega))]
    by_cases h2 : 11 ≤ σ
    · rw [if_pos (nI_le h2 (by omega)), if_neg (by omega)]
    · rw [if_neg (nI_ge (by omega) (by omega)), if_pos (by omega)]
/-- only the three cells of the moment change -/
def Mv (E E' : Ob) : Prop := (∀ r, r ≠ 0 → E' r = E r) ∧ ∀ c, c ≠ 11 → c ≠ 12 → c ≠ 13 → E' 0 c = E 0 c
theorem takeC {w : Nat → Nat} {vW E V : Ob} (hV : WV w) (hC : WC w vW) {g : Nat → Int32} {H σ k p s k' p' s' : Nat} (hE : At V g k p s E) (hk : k ≤ 60) (hp : p < 7) (hs : s < 32) (hsp : Sp w H 99 99 σ k p s k' p' s') : ∃ E', m_X3_takeStep E vW (nI σ) = some E' ∧ At V g k' p' s' E' ∧ Mv E E' := by
  have h7 := hV.1
  have h9 := hV.2.1
  have h6 := hV.2.2.1
  obtain ⟨e1, e2, e3, e4, e5⟩ := hE
  unfold m_X3_takeStep
  rw [show (0 : Int32) = nI 0 from rfl]
  rcases hsp with ⟨x1, x2, x3, x4, x5⟩ | ⟨r, x1, x2, x3, x4, x5⟩ | ⟨h, x1, x2, x3, x4, x5, x6⟩
  · subst x1; subst x3; subst x4; subst x5
    rw [if_pos rfl, e3, nI_1]
    refine ⟨_, rfl, ⟨?_, ?_, ?_, ?_, ?_⟩, fun r hr => st_row_ne _ _ _ hr, fun c c1 c2 c3 => ?_⟩
    · rw [st_row_ne _ _ _ (by omega)]; exact e1
    · rw [st_row_eq, upd_ne _ _ (by omega)]; exact e2
    · rw [st_row_eq, upd_eq]
    · rw [st_row_eq, upd_ne _ _ (by omega)]; exact e4
    · rw [st_row_eq, upd_ne _ _ (by omega)]; exact e5
    · rw [st_row_eq, upd_ne _ _ c2]
  · subst x1
    obtain ⟨w1, w2⟩ := sWalk_ent hV x2 x5
    have hfar : sFar w r p = some p' := by
      unfold sWalk at x5
      cases hf : sFar w r p with
      | none => rw [hf] at x5; cases x5
      | some q' =>
        rw [hf] at x5
        simp only [Option.bind_some] at x5
        cases he : sEnt w q' (H + k') s with
        | none => rw [he] at x5; cases x5
        | some y => rw [he] at x5; cases x5; rfl
    rw [if_neg (by rw [nI_eq (by omega) (by omega)]; omega), isWalk_e (by omega), bnd_s, if_pos (show 1 ≤ 1 + r ∧ 1 + r < 11 by omega), if_neg (show ¬ (1 : Int32) = nI 0 by decide), show nI (1 + r) - 1 = nI r by rw [show (1 : Int32) = nI 1 from rfl, nI_subN (by omega) (by omega)]; congr 1; omega, e2, e3, e4, farEndC hV hC x2 (by omega), hfar, bnd_s, roadHours_y hV hC x2, bnd_s]
    dsimp only
    rw [thingsInsideC hV hC w2 hs w1, bnd_s, nI_add, ← x4]
    refine ⟨_, rfl, ⟨?_, ?_, ?_, ?_, ?_⟩, fun r hr => ?_, fun c c1 c2 c3 => ?_⟩
    · rw [st_row_ne _ _ _ (by omega), st_row_ne _ _ _ (by omega), st_row_ne _ _ _ (by omega)]; exact e1
    · rw [st_row_eq, upd_ne _ _ (by omega), st_row_eq, upd_ne _ _ (by omega), st_row_eq, upd_eq]
    · rw [st_row_eq, upd_ne _ _ (by omega), st_row_eq, upd_eq]
    · rw [st_row_eq, upd_eq]
    · rw [st_row_eq, upd_ne _ _ (by omega), st_row_eq, upd_ne _ _ (by omega), st_row_eq, upd_ne _ _ (by omega)]; exact e5
    · rw [st_row_ne _ _ _ hr, st_row_ne _ _ _ hr, st_row_ne _ _ _ hr]
    · rw [st_row_eq, upd_ne _ _ c3, st_row_eq, upd_ne _ _ c2, st_row_eq, upd_ne _ _ c1]
  · subst x1; subst x4; subst x5
    obtain ⟨hp', hg5, ha⟩ := hV.2.2.2.2.2.2.2 h x2
    obtain ⟨g1, g2, -⟩ := sGive_eq x6
    rw [if_neg (by rw [nI_eq (by omega) (by omega)]; omega), isWalk_e (by omega), bnd_s, if_neg (show ¬ (1 ≤ 11 + h ∧ 11 + h < 11) by omega), if_pos (show (0 : Int32) = nI 0 from rfl), show nI (11 + h) - 11 = nI h by rw [show (11 : Int32) = nI 11 from rfl, nI_subN (by omega) (by omega)]; congr 1; omega, hostGives_y hV hC x2, bnd_s, e4, gv_small s hs _ hg5 g1, ← g2]
    refine ⟨_, rfl, ⟨?_, ?_, ?_, ?_, ?_⟩, fun r hr => st_row_ne _ _ _ hr, fun c c1 c2 c3 => ?_⟩
    · rw [st_row_ne _ _ _ (by omega)]; exact e1
    · rw [st_row_eq, upd_ne _ _ (by omega)]; exact e2
    · rw [st_row_eq, upd_ne _ _ (by omega)]; exact e3
    · rw [st_row_eq, upd_eq]
    · rw [st_row_eq, upd_ne _ _ (by omega)]; exact e5
    · rw [st_row_eq, upd_ne _ _ c3]
end
