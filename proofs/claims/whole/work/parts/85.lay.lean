section
/-! PURE: the reference's table -/
def MB (m : Nat → Int32) (k p s : Nat) : Bool := bt (m (7 * k + p)) s
/-- the reference, with what it leaves out -/
def RN (w : Nat → Nat) (nr nh H p0 s0 : Nat) (v : Ob) : Prop := WM w (v 1) ∧ v 0 18 = nbI nr ∧ v 0 19 = nbI nh ∧ v 3 0 = nI p0 ∧ v 3 1 = nI H ∧ v 3 2 = nI s0 ∧ H ≤ 9999 ∧ p0 < 7 ∧ s0 < 32
theorem RN.up {w : Nat → Nat} {nr nh H p0 s0 : Nat} {v : Ob} (h : RN w nr nh H p0 s0 v) (m : Nat → Int32) : RN w nr nh H p0 s0 (upR v 18 m) := by
  unfold RN
  rw [upR_ne _ _ (by omega), upR_ne _ _ (by omega), upR_ne _ _ (by omega)]
  exact h
theorem holds32 (x : Int32) {s : Nat} (hs : s < 32) : m_X6_holds x (nI s) = some (if bt x s = true then 1 else 0) := by
  unfold m_X6_holds
  by_cases h : bt x s = true
  · rw [if_pos ((b_sshr0 x hs).mpr h), if_pos h]
  · rw [if_neg (fun z => h ((b_sshr0 x hs).mp z)), if_neg h]
theorem i7' (k p : Nat) : (7 : Int32) * nI k + nI p = nI (7 * k + p) := by
  rw [show (7 : Int32) = nI 7 from rfl, nI_mulN, nI_add]
theorem canBe_e (v : Ob) {k p s : Nat} (hk : k ≤ 60) (hp : p < 7) (hs : s < 32) : m_X6_canBe v (nI k) (nI p) (nI s) = some (if MB (v 18) k p s = true then 1 else 0) := by
  unfold m_X6_canBe MB
  rw [i7', grd_t (inb_nI (by omega) (by omega)), cl (by omega), holds32 _ hs, bnd_s, grd_t (bz_bi _)]
theorem waits_e {w : Nat → Nat} (v : Ob) {k p s E : Nat} (hk : k ≤ E) (hE : E ≤ 60) (hp : p < 7) (hs : s < 32) : ∃ b : Bool, m_X6_waitsOn v (nI k) (nI p) (nI s) (nI E) = some (if b = true then 1 else 0) ∧ (b = true ↔ (k < E ∧ MB (v 18) (k + 1) p s = true)) := by
  unfold m_X6_waitsOn
  by_cases h : k < E
  · rw [if_neg (nI_ge h (by omega)), nI_1, canBe_e v (by omega) hp hs, bnd_s, if_bi]
    refine ⟨MB (v 18) (k + 1) p s, ?_, ⟨fun z => ⟨h, z⟩, fun z => z.2⟩⟩
    cases MB (v 18) (k + 1) p s <;> rfl
  · rw [if_pos (nI_le (by omega) (by omega))]
    exact ⟨false, rfl, ⟨fun z => (by cases z), fun z => absurd z.1 h⟩⟩
def LD (w : Nat → Nat) (H nr : Nat) (m : Nat → Int32) (E k p s r : Nat) : Prop := r ≠ nr ∧ k + w (43 + r) ≤ E ∧ ∃ q s', sWalk w r p (H + (k + w (43 + r))) s = some (q, s') ∧ MB m (k + w (43 + r)) q s' = true
def AK (w : Nat → Nat) (nh : Nat) (m : Nat → Int32) (k p s h : Nat) : Prop := h ≠ nh ∧ ∃ s', sGive w h p s = some s' ∧ MB m k p s' = true
theorem leads_e {w : Nat → Nat} (hV : WV w) {nr nh H p0 s0 : Nat} {v : Ob} (hR : RN w nr nh H p0 s0 v) {k p s r E : Nat} (hk : k ≤ E) (hE : E ≤ 60) (hp : p < 7) (hs : s < 32) (hr : r < w 1) : ∃ b : Bool, m_X6_leads v (nI k) (nI p) (nI s) (nI r) (nI E) = some (if b = true then 1 else 0) ∧ (b = true ↔ LD w H nr (v 18) E k p s r) := by
  obtain ⟨hM, hnr, hnh, hh0, hh1, hh2, hH, -, -⟩ := hR
  have h7 := hV.1
  have h9 := hV.2.1
  obtain ⟨ha, hb, hab, hl1, hl9⟩ := hV.2.2.2.2.2.2.1 r hr
  have e43 : (43 : Int32) + nI r = nI (43 + r) := nI_add 43 r
  unfold m_X6_leads LD
  rw [e43, grd_t (inb_nI (by omega) (by omega)), cl (by omega), (hM.2.2.2.2.2.1 r hr).2.2, hnr, nI_add, c1, hh1]
  by_cases h1 : r = nr
  · rw [if_pos ((nbI_eq (by omega)).mpr h1)]
    exact ⟨false, rfl, ⟨fun z => (by cases z), fun z => absurd h1 z.1⟩⟩
  · rw [if_neg (fun z => h1 ((nbI_eq (by omega)).mp z))]
    by_cases h2 : k + w (43 + r) ≤ E
    · rw [if_pos (nI_le h2 (by omega)), nI_add, entersM hV hM hr (by omega) (by omega) hs, bnd_s]
      cases hw : sWalk w r p (H + (k + w (43 + r))) s with
      | none =>
        dsimp only
        rw [if_pos (show (-1 : Int32) < 0 by decide)]
        refine ⟨false, rfl, ⟨fun z => (by cases z), fun z => ?_⟩⟩
        obtain ⟨-, -, q, s', z, -⟩ := z
        cases z
      | some x =>
        obtain ⟨q, s'⟩ := x
        obtain ⟨i1, i2, i3⟩ := sWalk_in hV hr hs hw
        dsimp only
        rw [if_neg (nI_pos (by omega)), otherEndM hV hM hr (by omega)]
        have hfar : sFar w r p = some q := by
          unfold sWalk at hw
          cases hf : sFar w r p with
          | none => rw [hf] at hw; cases hw
          | some q' =>
            rw [hf] at hw
            simp only [Option.bind_some] at hw
            cases he : sEnt w q' (H + (k + w (43 + r))) s with
            | none => rw [he] at hw; cases hw
            | some y => rw [he] at hw; cases hw; rfl
        rw [hfar, bnd_s, canBe_e v (by omega) (by omega) i3, bnd_s, if_bi]
        refine ⟨MB (v 18) (k + w (43 + r)) q s', ?_, ⟨fun z => ⟨h1, h2, q, s', rfl, z⟩, ?_⟩⟩
        · cases MB (v 18) (k + w (43 + r)) q s' <;> rfl
        · rintro ⟨-, -, q1, s1, z1, z2⟩
          cases z1
          exact z2
    · rw [if_neg (nI_ge (by omega) (by omega))]
      exact ⟨false, rfl, ⟨fun z => (by cases z), fun z => absurd z.2.1 h2⟩⟩
theorem asks_e {w : Nat → Nat} (hV : WV w) {nr nh H p0 s0 : Nat} {v : Ob} (hR : RN w nr nh H p0 s0 v) {k p s h : Nat} (hk : k ≤ 60) (hp : p < 7) (hs : s < 32) (hh : h < w 2) : ∃ b : Bool, m_X6_asksOn v (nI k) (nI p) (nI s) (nI h) = some (if b = true then 1 else 0) ∧ (b = true ↔ AK w nh (v 18) k p s h) := by
  obtain ⟨hM, hnr, hnh, hh0, hh1, hh2, hH, -, -⟩ := hR
  have h6 := hV.2.2.1
  unfold m_X6_asksOn m_X6_asksOn_j21 AK
  rw [hnh]
  by_cases h1 : h = nh
  · rw [if_pos ((nbI_eq (by omega)).mpr h1), if_pos (show (-1 : Int32) < 0 by decide)]
    exact ⟨false, rfl, ⟨fun z => (by cases z), fun z => absurd h1 z.1⟩⟩
  · rw [if_neg (fun z => h1 ((nbI_eq (by omega)).mp z)), givenM hV hM hh (by omega) hs, bnd_s]
    cases hg : sGive w h p s with
    | none =>
      dsimp only
      rw [if_pos (show (-1 : Int32) < 0 by decide)]
      refine ⟨false, rfl, ⟨fun z => (by cases z), fun z => ?_⟩⟩
      obtain ⟨-, s', z, -⟩ := z
      cases z
    | some s' =>
      have := sGive_in hV hh hs hg
      dsimp only
      rw [if_neg (nI_pos (by omega)), canBe_e v hk hp this.1, bnd_s, if_bi]
      refine ⟨MB (v 18) k p s', ?_, ⟨fun z => ⟨h1, s', rfl, z⟩, ?_⟩⟩
      · cases MB (v 18) k p s' <;> rfl
      · rintro ⟨-, s1, z1, z2⟩
        cases z1
        exact z2
theorem if10 (b : Bool) : (if b = true then (1 : Int32) else 0) = 0 ↔ b = false := by cases b <;> decide
theorem goL14 {w : Nat → Nat} (hV : WV w) {nr nh H p0 s0 : Nat} {v : Ob} (hR : RN w nr nh H p0 s0 v) {k p s E : Nat} (hk : k ≤ E) (hE : E ≤ 60) (hp : p < 7) (hs : s < 32) : ∀ (n i : Nat) (b : Bool), i ≤ w 1 → w 1 - i < n →
    ∃ b' : Bool, m_X6_goesOn_L14 v n (nI k) (nI p) (nI s) (nI E) (if b = true then 1 else 0) (nI i) = some (nI k, nI p, nI s, if b' = true then 1 else 0) ∧ (b' = true ↔ (b = true ∨ ∃ r, i ≤ r ∧ r < w 1 ∧ LD w H nr (v 18) E k p s r))
  | 0, i, b, hi, hn => by omega
  | n + 1, i, b, hi, hn => by
    have h9 := hV.2.1
    show ∃ b' : Bool, m_X6_goesOn_L14B v (m_X6_goesOn_L14 v n) (nI k) (nI p) (nI s) (nI E) (if b = true then 1 else 0) (nI i) = _ ∧ _
    unfold m_X6_goesOn_L14B
    rw [c1, hR.1.2.1]
    by_cases hlt : i < w 1
    · rw [if_neg (nI_ge hlt (by omega))]
      cases b with
      | true =>
        rw [if_neg (by decide)]
        exact ⟨true, rfl, ⟨fun _ => Or.inl rfl, fun _ => rfl⟩⟩
      | false =>
        rw [if_pos (by decide)]
        obtain ⟨b1, q1, q2⟩ := leads_e hV hR hk hE hp hs hlt
        rw [q1, bnd_s, nI_1]
        obtain ⟨b', g1, g2⟩ := goL14 hV hR hk hE hp hs n (i + 1) b1 (by omega) (by omega)
        refine ⟨b', g1, ?_⟩
        rw [g2, q2]
        constructor
        · rintro (z | ⟨r, z1, z2, z3⟩)
          · exact Or.inr ⟨i, Nat.le_refl _, hlt, z⟩
          · exact Or.inr ⟨r, by omega, z2, z3⟩
        · rintro (z | ⟨r, z1, z2, z3⟩)
          · cases z
          · by_cases hri : r = i
            · subst hri; exact Or.inl z3
            · exact Or.inr ⟨r, by omega, z2, z3⟩
    · rw [if_pos (nI_le (by omega) (by omega))]
      refine ⟨b, rfl, ⟨Or.inl, ?_⟩⟩
      rintro (z | ⟨r, z1, z2, -⟩)
      · exact z
      · omega
theorem goL52 {w : Nat → Nat} (hV : WV w) {nr nh H p0 s0 : Nat} {v : Ob} (hR : RN w nr nh H p0 s0 v) {k p s : Nat} (hk : k ≤ 60) (hp : p < 7) (hs : s < 32) : ∀ (n i : Nat) (b : Bool), i ≤ w 2 → w 2 - i < n →
    ∃ b' : Bool, m_X6_goesOn_L52 v n (nI k) (nI p) (nI s) (if b = true then 1 else 0) (nI i) = some (if b' = true then 1 else 0) ∧ (b' = true ↔ (b = true ∨ ∃ h, i ≤ h ∧ h < w 2 ∧ AK w nh (v 18) k p s h))
  | 0, i, b, hi, hn => by omega
  | n + 1, i, b, hi, hn => by
    have h6 := hV.2.2.1
    show ∃ b' : Bool, m_X6_goesOn_L52B v (m_X6_goesOn_L52 v n) (nI k) (nI p) (nI s) (if b = true then 1 else 0) (nI i) = _ ∧ _
    unfold m_X6_goesOn_L52B
    rw [c2, hR.1.2.2.1]
    by_cases hlt : i < w 2
    · rw [if_neg (nI_ge hlt (by omega))]
      cases b with
      | true =>
        rw [if_neg (by decide)]
        exact ⟨true, rfl, ⟨fun _ => Or.inl rfl, fun _ => rfl⟩⟩
      | false =>
        rw [if_pos (by decide)]
        obtain ⟨b1, q1, q2⟩ := asks_e hV hR hk hp hs hlt
        rw [q1, bnd_s, nI_1]
        obtain ⟨b', g1, g2⟩ := goL52 hV hR hk hp hs n (i + 1) b1 (by omega) (by omega)
        refine ⟨b', g1, ?_⟩
        rw [g2, q2]
        constructor
        · rintro (z | ⟨r, z1, z2, z3⟩)
          · exact Or.inr ⟨i, Nat.le_refl _, hlt, z⟩
          · exact Or.inr ⟨r, by omega, z2, z3⟩
        · rintro (z | ⟨r, z1, z2, z3⟩)
          · cases z
          · by_cases hri : r = i
            · subst hri; exact Or.inl z3
            · exact Or.inr ⟨r, by omega, z2, z3⟩
    · rw [if_pos (nI_le (by omega) (by omega))]
      refine ⟨b, rfl, ⟨Or.inl, ?_⟩⟩
      rintro (z | ⟨r, z1, z2, -⟩)
      · exact z
      · omega
def GO (w : Nat → Nat) (H nr nh : Nat) (m : Nat → Int32) (E k p s : Nat) : Prop := ∃ σ k' p' s', Sp w H nr nh σ k p s k' p' s' ∧ k' ≤ E ∧ MB m k' p' s' = true
theorem goes_e {w : Nat → Nat} (hV : WV w) {nr nh H p0 s0 : Nat} {v : Ob} (hR : RN w nr nh H p0 s0 v) {k p s E : Nat} (hk : k ≤ E) (hE : E ≤ 60) (hp : p < w 0) (hs : s < 32) : ∃ b : Bool, m_X6_goesOn v (nI k) (nI p) (nI s) (nI E) = some (if b = true then 1 else 0) ∧ (b = true ↔ GO w H nr nh (v 18) E k p s) := by
  have h7 := hV.1
  have h9 := hV.2.1
  have h6 := hV.2.2.1
  obtain ⟨b1, q1, q2⟩ := waits_e (w := w) v hk hE (p := p) (by omega) hs
  obtain ⟨b2, q3, q4⟩ := goL14 hV hR hk hE (p := p) (by omega) hs FU 0 b1 (by omega) (by unfold FU; omega)
  obtain ⟨b3, q5, q6⟩ := goL52 hV hR (k := k) (by omega) (p := p) (by omega) hs FU 0 b2 (by omega) (by unfold FU; omega)
  have q3' : m_X6_goesOn_L14 v FU (nI k) (nI p) (nI s) (nI E) (if b1 = true then 1 else 0) 0 = _ := q3
  have q5' : m_X6_goesOn_L52 v FU (nI k) (nI p) (nI s) (if b2 = true then 1 else 0) 0 = _ := q5
  refine ⟨b3, ?_, ?_⟩
  · unfold m_X6_goesOn
    rw [q1, bnd_s, q3', bnd_s]
    dsimp only
    rw [q5', bnd_s, grd_t (bz_bi _)]
  · rw [q6, q4, q2]
    unfold GO
    constructor
    · rintro ((⟨z1, z2⟩ | ⟨r, -, z1, z2, z3, q, s', z4, z5⟩) | ⟨h, -, z1, z2, s', z3, z4⟩)
      · exact ⟨0, k + 1, p, s, Or.inl ⟨rfl, hp, rfl, rfl, rfl⟩, by omega, z2⟩
      · exact ⟨1 + r, _, q, s', Or.inr (Or.inl ⟨r, rfl, z1, z2, rfl, z4⟩), z3, z5⟩
      · exact ⟨11 + h, k, p, s', Or.inr (Or.inr ⟨h, rfl, z1, z2, rfl, rfl, z3⟩), hk, z4⟩
    · rintro ⟨σ, k', p', s', (⟨y1, y2, y3, y4, y5⟩ | ⟨r, y1, y2, y3, y4, y5⟩ | ⟨h, y1, y2, y3, y4, y5, y6⟩), z2, z3⟩
      · subst y3; subst y4; subst y5
        exact Or.inl (Or.inl ⟨by omega, z3⟩)
      · subst y4
        exact Or.inl (Or.inr ⟨r, Nat.zero_le _, y2, y3, z2, p', s', y5, z3⟩)
      · subst y4; subst y5
        exact Or.inr ⟨h, Nat.zero_le _, y2, y3, s', y6, z3⟩
theorem CB_cases {w : Nat → Nat} {H nr nh t e k p s : Nat} (h : CB w H nr nh t e k p s) : (k = e ∧ p = 0 ∧ s.testBit t = true) ∨ ∃ σ k' p' s', Sp w H nr nh σ k p s k' p' s' ∧ CB w H nr nh t e k' p' s' := by
  induction h using CB_ind with
  | z h => exact Or.inl ⟨rfl, rfl, h⟩
  | c a b ih => exact Or.inr ⟨_, _, _, _, a, b⟩
theorem MB_upd (m : Nat → Int32) {k p k' p' : Nat} (hp : p < 7) (hp' : p' < 7) (x : Int32) (s : Nat) : MB (upd m (7 * k + p) x) k' p' s = if k' = k ∧ p' = p then bt x s else MB m k' p' s := by
  unfold MB
  by_cases h : k' = k ∧ p' = p
  · rw [if_pos h, h.1, h.2, upd_eq]
  · rw [if_neg h, upd_ne _ _ (by omega)]
/-- the things of one cell -/
theorem lay37 {w : Nat → Nat} (hV : WV w) {nr nh H p0 s0 : Nat} {V : Ob} (hR : RN w nr nh H p0 s0 V) {t E k p : Nat} (ht : t < 5) (hk : k ≤ E) (hE : E ≤ 60) (hp : p < w 0) : ∀ (n i : Nat) (m : Nat → Int32), i ≤ 32 → i < n →
    (∀ k' p' s', k ≤ k' → k' ≤ E → p' < w 0 → s' < 32 → (k < k' ∨ p' < p ∨ (p' = p ∧ i ≤ s')) → (MB m k' p' s' = true ↔ CB w H nr nh t E k' p' s')) → (∀ s', s' < i → MB m k p s' = false) →
    ∃ m', m_X6_layWays_L37 n (upR V 18 m) (nI t) (nI E) (nI k) (nI p) (dI i) = some (upR V 18 m', nI t, nI E, nI k, nI p) ∧ ∀ k' p' s', k ≤ k' → k' ≤ E → p' < w 0 → s' < 32 → (k < k' ∨ p' ≤ p) → (MB m' k' p' s' = true ↔ CB w H nr nh t E k' p' s')
  | 0, i, m, hi, hn, _, _ => by omega
  | n + 1, i, m, hi, hn, h1, h2 => by
    have h7 := hV.1
    show ∃ m', m_X6_layWays_L37B (m_X6_layWays_L37 n) (upR V 18 m) (nI t) (nI E) (nI k) (nI p) (dI i) = _ ∧ _
    unfold m_X6_layWays_L37B
    cases i with
    | zero =>
      rw [if_pos dI_0]
      refine ⟨m, rfl, fun k' p' s' a1 a2 a3 a4 a5 => h1 k' p' s' a1 a2 a3 a4 ?_⟩
      rcases a5 with z | z
      · exact Or.inl z
      · by_cases hpp : p' = p
        · exact Or.inr (Or.inr ⟨hpp, Nat.zero_le _⟩)
        · exact Or.inr (Or.inl (by omega))
    | succ s =>
      have hs : s < 32 := by omega
      rw [dI_s, if_neg (nI_pos (by omega))]
      obtain ⟨b, q1, q2⟩ := goes_e hV (hR.up m) hk hE hp hs
      rw [upR_eq] at q2
      have hgo : GO w H nr nh m E k p s ↔ ∃ σ k' p' s', Sp w H nr nh σ k p s k' p' s' ∧ CB w H nr nh t E k' p' s' := by
        constructor
        · rintro ⟨σ, k', p', s', z1, z2, z3⟩
          have hin := Sp_in hV hs z1
          refine ⟨σ, k', p', s', z1, (h1 k' p' s' hin.2.2.2.1 z2 hin.2.1 hin.2.2.1 ?_).mp z3⟩
          by_cases hσ : σ < 11
          · exact Or.inl (hin.2.2.2.2 hσ)
          · rcases z1 with ⟨y, -⟩ | ⟨r, y1, y2, -⟩ | ⟨h, y1, y2, y3, y4, y5, y6⟩
            · omega
            · have := hV.2.1; omega
            · exact Or.inr (Or.inr ⟨y5, (sGive_in hV y2 hs y6).2.2.2⟩)
        · rintro ⟨σ, k', p', s', z1, z2⟩
          have hin := Sp_in hV hs z1
          have hle := CB_le z2
          refine ⟨σ, k', p', s', z1, hle, (h1 k' p' s' hin.2.2.2.1 hle hin.2.1 hin.2.2.1 ?_).mpr z2⟩
          by_cases hσ : σ < 11
          · exact Or.inl (hin.2.2.2.2 hσ)
          · rcases z1 with ⟨y, -⟩ | ⟨r, y1, y2, -⟩ | ⟨h, y1, y2, y3, y4, y5, y6⟩
            · omega
            · have := hV.2.1; omega
            · exact Or.inr (Or.inr ⟨y5, (sGive_in hV y2 hs y6).2.2.2⟩)
      have hcb : CB w H nr nh t E k p s ↔ ((k = E ∧ p = 0 ∧ s.testBit t = true) ∨ b = true) := by
        rw [q2, hgo]
        constructor
        · exact CB_cases
        · rintro (⟨z1, z2, z3⟩ | ⟨σ, k', p', s', z1, z2⟩)
          · subst z1; subst z2; exact .z z3
          · exact .c z1 z2
      have fin : ∀ (x : Int32) (B : Bool), (∀ i, i < 32 → bt x i = (B && decide (i = s))) → (B = true ↔ CB w H nr nh t E k p s) → ∃ m', m_X6_layWays_j107 (m_X6_layWays_L37 n) (upR V 18 m) (nI t) (nI E) (nI k) (nI p) (nI s) (nI (7 * k + p)) (m (7 * k + p)) x = some (upR V 18 m', nI t, nI E, nI k, nI p) ∧ ∀ k' p' s', k ≤ k' → k' ≤ E → p' < w 0 → s' < 32 → (k < k' ∨ p' ≤ p) → (MB m' k' p' s' = true ↔ CB w H nr nh t E k' p' s') := by
        intro x B hx hB
        unfold m_X6_layWays_j107
        rw [grd_t (inb_nI (by omega) (by omega)), cl (by omega), st_upR, dI_dn]
        have hm : ∀ k' p' s', p' < 7 → s' < 32 → MB (upd m (7 * k + p) (m (7 * k + p) ||| x)) k' p' s' = (MB m k' p' s' || (decide (k' = k ∧ p' = p) && (B && decide (s' = s)))) := by
          intro k' p' s' hp' hs'
          rw [MB_upd m (by omega) hp', b_or, hx s' hs']
          by_cases hh : k' = k ∧ p' = p
          · rw [if_pos hh, decide_eq_true hh, Bool.true_and, hh.1, hh.2]; rfl
          · rw [if_neg hh, decide_eq_false hh, Bool.false_and, Bool.or_false]
        refine lay37 hV hR ht hk hE hp n s _ (by omega) (by omega) ?_ ?_
        · intro k' p' s' a1 a2 a3 a4 a5
          rw [hm k' p' s' (by omega) a4]
          by_cases hh : k' = k ∧ p' = p
          · rw [decide_eq_true hh, Bool.true_and]
            by_cases hss : s' = s
            · rw [decide_eq_true hss, Bool.and_true, hh.1, hh.2, hss, h2 s (by omega), Bool.false_or]
              exact hB
            · rw [decide_eq_false hss, Bool.and_false, Bool.or_false]
              refine h1 k' p' s' a1 a2 a3 a4 ?_
              rcases a5 with z | z | z
              · exact Or.inl z
              · exact Or.inr (Or.inl z)
              · exact Or.inr (Or.inr ⟨z.1, by omega⟩)
          · rw [decide_eq_false hh, Bool.false_and, Bool.or_false]
            refine h1 k' p' s' a1 a2 a3 a4 ?_
            rcases a5 with z | z | z
            · exact Or.inl z
            · exact Or.inr (Or.inl z)
            · exact Or.inl (by omega)
        · intro s' hs'
          rw [hm k p s' (by omega) (by omega), h2 s' (by omega), decide_eq_false (show ¬ s' = s by omega), Bool.and_false, Bool.and_false]; rfl
      have one : ∀ i, i < 32 → bt ((1 : Int32) <<< (nI s &&& 31)) i = (true && decide (i = s)) := fun i hi => by rw [sh1s hs i hi, Bool.true_and]
      have zero : ∀ i, i < 32 → bt (0 : Int32) i = (false && decide (i = s)) := fun i hi => by rw [b_0, Bool.false_and]
      have j66n : (¬ (k = E ∧ p = 0 ∧ s.testBit t = true)) → ∃ m', m_X6_layWays_j66 (m_X6_layWays_L37 n) (upR V 18 m) (nI t) (nI E) (nI k) (nI p) (nI s) 0 = some (upR V 18 m', nI t, nI E, nI k, nI p) ∧ ∀ k' p' s', k ≤ k' → k' ≤ E → p' < w 0 → s' < 32 → (k < k' ∨ p' ≤ p) → (MB m' k' p' s' = true ↔ CB w H nr nh t E k' p' s') := by
        intro hno
        unfold m_X6_layWays_j66 m_X6_layWays_j99
        rw [i7', grd_t (inb_nI (by omega) (by omega)), if_pos rfl, cl (by omega), upR_eq, q1, bnd_s]
        cases b with
        | true =>
          rw [if_neg (by decide)]
          exact fin _ true one ⟨fun _ => hcb.mpr (Or.inr rfl), fun _ => rfl⟩
        | false =>
          rw [if_pos (by decide)]
          exact fin _ false zero ⟨fun z => (by cases z), fun z => ((hcb.mp z).resolve_left hno)⟩
      have j66y : (k = E ∧ p = 0 ∧ s.testBit t = true) → ∃ m', m_X6_layWays_j66 (m_X6_layWays_L37 n) (upR V 18 m) (nI t) (nI E) (nI k) (nI p) (nI s) 1 = some (upR V 18 m', nI t, nI E, nI k, nI p) ∧ ∀ k' p' s', k ≤ k' → k' ≤ E → p' < w 0 → s' < 32 → (k < k' ∨ p' ≤ p) → (MB m' k' p' s' = true ↔ CB w H nr nh t E k' p' s') := by
        intro hy
        unfold m_X6_layWays_j66 m_X6_layWays_j99
        rw [i7', grd_t (inb_nI (by omega) (by omega)), if1, cl (by omega), upR_eq]
        exact fin _ true one ⟨fun _ => hcb.mpr (Or.inl hy), fun _ => rfl⟩
      unfold m_X6_layWays_j65
      rw [if_nI (by omega) (by omega)]
      by_cases e1 : k = E
      · rw [if_pos e1, show (0 : Int32) = nI 0 from rfl, if_nI (by omega) (by omega)]
        by_cases e2 : p = 0
        · rw [if_pos e2, holdsM hs ht, bnd_s]
          by_cases e3 : s.testBit t = true
          · rw [if_pos e3, if_neg (by decide)]
            exact j66y ⟨e1, e2, e3⟩
          · rw [if_neg e3, if_pos (show (0 : Int32) = nI 0 from rfl)]
            exact j66n (fun z => e3 z.2.2)
        · rw [if_neg e2]
          exact j66n (fun z => e2 z.2.1)
      · rw [if_neg e1]
        exact j66n (fun z => e1 z.1)
theorem lay9 {w : Nat → Nat} (hV : WV w) {nr nh H p0 s0 : Nat} {V : Ob} (hR : RN w nr nh H p0 s0 V) {t E k : Nat} (ht : t < 5) (hk : k ≤ E) (hE : E ≤ 60) : ∀ (n i : Nat) (m : Nat → Int32), i ≤ w 0 → w 0 - i < n →
    (∀ k' p' s', k ≤ k' → k' ≤ E → p' < w 0 → s' < 32 → (k < k' ∨ p' < i) → (MB m k' p' s' = true ↔ CB w H nr nh t E k' p' s')) →
    ∃ m', m_X6_layWays_L9 n (upR V 18 m) (nI t) (nI E) (nI k) (nI i) = some (upR V 18 m', nI t, nI E, nI k) ∧ ∀ k' p' s', k ≤ k' → k' ≤ E → p' < w 0 → s' < 32 → (MB m' k' p' s' = true ↔ CB w H nr nh t E k' p' s')
  | 0, i, m, hi, hn, _ => by omega
  | n + 1, i, m, hi, hn, h1 => by
    have h7 := hV.1
    show ∃ m', m_X6_layWays_L9B (m_X6_layWays_L9 n) (upR V 18 m) (nI t) (nI E) (nI k) (nI i) = _ ∧ _
    unfold m_X6_layWays_L9B
    rw [c0, (hR.up m).1.1]
    by_cases hlt : i < w 0
    · rw [if_neg (nI_ge hlt (by omega)), i7', grd_t (inb_nI (by omega) (by omega)), cl (by omega), st_upR, show (31 : Int32) = dI 32 from rfl]
      obtain ⟨m1, q1, q2⟩ := lay37 hV hR ht hk hE hlt FU 32 (upd m (7 * k + i) 0) (by omega) (by unfold FU; omega) (fun k' p' s' a1 a2 a3 a4 a5 => by
        rw [MB_upd m (by omega) (by omega), if_neg (by omega)]
        exact h1 k' p' s' a1 a2 a3 a4 (by omega)) (fun s' hs' => by rw [MB_upd m (by omega) (by omega), if_pos ⟨rfl, rfl⟩, b_0])
      rw [q1, bnd_s]
      dsimp only
      rw [nI_1]
      exact lay9 hV hR ht hk hE n (i + 1) m1 (by omega) (by omega) (fun k' p' s' a1 a2 a3 a4 a5 => q2 k' p' s' a1 a2 a3 a4 (by omega))
    · rw [if_pos (nI_le (by omega) (by omega))]
      exact ⟨m, rfl, fun k' p' s' a1 a2 a3 a4 => h1 k' p' s' a1 a2 a3 a4 (Or.inr (by omega))⟩
theorem lay2 {w : Nat → Nat} (hV : WV w) {nr nh H p0 s0 : Nat} {V : Ob} (hR : RN w nr nh H p0 s0 V) {t E : Nat} (ht : t < 5) (hE : E ≤ 60) : ∀ (n i : Nat) (m : Nat → Int32), i ≤ E + 1 → i < n →
    (∀ k' p' s', i ≤ k' → k' ≤ E → p' < w 0 → s' < 32 → (MB m k' p' s' = true ↔ CB w H nr nh t E k' p' s')) →
    ∃ m', m_X6_layWays_L2 n (upR V 18 m) (nI t) (nI E) (dI i) = some (upR V 18 m') ∧ ∀ k' p' s', k' ≤ E → p' < w 0 → s' < 32 → (MB m' k' p' s' = true ↔ CB w H nr nh t E k' p' s')
  | 0, i, m, hi, hn, _ => by omega
  | n + 1, i, m, hi, hn, h1 => by
    have h7 := hV.1
    show ∃ m', m_X6_layWays_L2B (m_X6_layWays_L2 n) (upR V 18 m) (nI t) (nI E) (dI i) = _ ∧ _
    unfold m_X6_layWays_L2B
    cases i with
    | zero =>
      rw [if_pos dI_0]
      exact ⟨m, rfl, fun k' p' s' a1 a2 a3 => h1 k' p' s' (Nat.zero_le _) a1 a2 a3⟩
    | succ k =>
      rw [dI_s, if_neg (nI_pos (by omega))]
      obtain ⟨m1, q1, q2⟩ := lay9 hV hR ht (k := k) (by omega) hE FU 0 m (by omega) (by unfold FU; omega) (fun k' p' s' a1 a2 a3 a4 a5 => h1 k' p' s' (by omega) a2 a3 a4)
      have q1' : m_X6_layWays_L9 FU (upR V 18 m) (nI t) (nI E) (nI k) 0 = _ := q1
      rw [q1', bnd_s]
      dsimp only
      rw [dI_dn]
      exact lay2 hV hR ht hE n k m1 (by omega) (by omega) q2
theorem layM {w : Nat → Nat} (hV : WV w) {nr nh H p0 s0 : Nat} {V : Ob} (hR : RN w nr nh H p0 s0 V) {t E : Nat} (ht : t < 5) (hE : E ≤ 60) : ∃ m', m_X6_layWays V (nI t) (nI E) = some (upR V 18 m') ∧ ∀ k' p' s', k' ≤ E → p' < w 0 → s' < 32 → (MB m' k' p' s' = true ↔ CB w H nr nh t E k' p' s') := by
  obtain ⟨m, q1, q2⟩ := lay2 hV hR ht hE FU (E + 1) (V 18) (by omega) (by unfold FU; omega) (fun k' p' s' a1 a2 => by omega)
  rw [upR_self, dI_s] at q1
  exact ⟨m, by unfold m_X6_layWays; rw [q1, bnd_s], q2⟩
theorem isWayM {w : Nat → Nat} (hV : WV w) {nr nh H p0 s0 : Nat} {V : Ob} (hR : RN w nr nh H p0 s0 V) (hp : p0 < w 0) {t E : Nat} (ht : t < 5) (hE : E ≤ 60) : ∃ (m' : Nat → Int32) (b : Bool), m_X6_isWay V (nI t) (nI E) = some (if b = true then 1 else 0, upR V 18 m') ∧ (b = true ↔ CB w H nr nh t E 0 p0 s0) := by
  obtain ⟨m, q1, q2⟩ := layM hV hR ht hE
  have hR' := hR.up m
  unfold m_X6_isWay
  rw [q1, bnd_s, c0, c2, hR'.2.2.2.1, hR'.2.2.2.2.2.1, show (0 : Int32) = nI 0 from rfl, canBe_e _ (by omega) hR.2.2.2.2.2.2.2.1 hR.2.2.2.2.2.2.2.2, bnd_s, grd_t (bz_bi _), upR_eq]
  exact ⟨m, MB m 0 p0 s0, rfl, q2 0 p0 s0 (by omega) hp hR.2.2.2.2.2.2.2.2⟩
end
