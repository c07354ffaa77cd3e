section
/-! PURE: how far places are; the brother -/
def Ed (w : Nat → Nat) (r a b : Nat) : Prop := (a = w (25 + r) ∧ b = w (34 + r)) ∨ (a = w (34 + r) ∧ b = w (25 + r))
def PW (w : Nat → Nat) (fr p g : Nat) : Prop := ∀ Q : Nat → Nat → Prop, Q fr 0 → (∀ r a b g, r < w 1 → Ed w r a b → Q a g → Q b (g + w (43 + r))) → Q p g
theorem PW.z {w : Nat → Nat} {fr : Nat} : PW w fr fr 0 := fun _ a _ => a
theorem PW.c {w : Nat → Nat} {fr r a b g : Nat} (hr : r < w 1) (he : Ed w r a b) (h : PW w fr a g) : PW w fr b (g + w (43 + r)) := fun Q x y => y r a b g hr he (h Q x y)
theorem PW_cases {w : Nat → Nat} {fr p g : Nat} (h : PW w fr p g) : (p = fr ∧ g = 0) ∨ ∃ r a g', r < w 1 ∧ Ed w r a p ∧ PW w fr a g' ∧ g = g' + w (43 + r) := by
  obtain ⟨-, h2⟩ := h (fun p g => PW w fr p g ∧ ((p = fr ∧ g = 0) ∨ ∃ r a g', r < w 1 ∧ Ed w r a p ∧ PW w fr a g' ∧ g = g' + w (43 + r))) ⟨.z, Or.inl ⟨rfl, rfl⟩⟩ (fun r a b g hr he ⟨x, _⟩ => ⟨.c hr he x, Or.inr ⟨r, a, g, hr, he, x, rfl⟩⟩)
  exact h2
/-- hours that are those of a walk, or M -/
def SD (w : Nat → Nat) (fr M : Nat) (D : Nat → Nat) : Prop := ∀ p, D p ≤ M ∧ (D p < M → PW w fr p (D p))
def rx (D : Nat → Nat) (a b l : Nat) : Nat → Nat := updN D b (if D b ≤ D a + l then D b else D a + l)
theorem rx_le (D : Nat → Nat) (a b l p : Nat) : rx D a b l p ≤ D p := by
  unfold rx
  by_cases h : p = b
  · subst h; rw [updN_eq]; split <;> omega
  · rw [updN_ne _ _ h]; exact Nat.le_refl _
theorem rx_b (D : Nat → Nat) (a b l : Nat) : rx D a b l b ≤ D a + l := by
  unfold rx
  rw [updN_eq]; split <;> omega
theorem rx_SD {w : Nat → Nat} {fr M : Nat} {D : Nat → Nat} {r a b : Nat} (h : SD w fr M D) (hr : r < w 1) (he : Ed w r a b) : SD w fr M (rx D a b (w (43 + r))) := by
  intro p
  unfold rx
  by_cases hp : p = b
  · subst hp
    rw [updN_eq]
    have h1 := h p
    have h2 := h a
    split
    · exact h1
    · exact ⟨by omega, fun _ => .c hr he (h2.2 (by omega))⟩
  · rw [updN_ne _ _ hp]; exact h p
/-- how many places are nearer than g -/
noncomputable def cB (P : Prop) : Bool := @decide P (Classical.propDecidable P)
theorem cB_t {P : Prop} : cB P = true ↔ P := @decide_eq_true_iff P (Classical.propDecidable P)
theorem cB_f {P : Prop} : cB P = false ↔ ¬ P := @decide_eq_false_iff_not P (Classical.propDecidable P)
noncomputable def cR (w : Nat → Nat) (fr g : Nat) : Nat := cnt (fun q => cB (∃ g', g' < g ∧ PW w fr q g')) 7
theorem cnt_sub {A B : Nat → Bool} : ∀ n, (∀ i, i < n → A i = true → B i = true) → cnt A n ≤ cnt B n
  | 0, _ => Nat.le_refl _
  | n + 1, h => by
    have ih := cnt_sub n (fun i hi => h i (by omega))
    rw [cnt_s, cnt_s]
    have := h n (by omega)
    by_cases ha : A n = true
    · rw [if_pos ha, if_pos (this ha)]; omega
    · rw [if_neg ha]; omega
theorem cnt_str {A B : Nat → Bool} {c : Nat} (hA : A c = false) (hB : B c = true) : ∀ n, c < n → (∀ i, i < n → A i = true → B i = true) → cnt A n < cnt B n
  | 0, hc, _ => by omega
  | n + 1, hc, h => by
    rw [cnt_s, cnt_s]
    by_cases he : c = n
    · subst he
      have := cnt_sub c (fun i hi => h i (by omega))
      rw [hB, hA, if_neg (by decide), if_pos rfl]
      omega
    · have ih := cnt_str hA hB n (by omega) (fun i hi => h i (by omega))
      have := h n (by omega)
      by_cases ha : A n = true
      · rw [if_pos ha, if_pos (this ha)]; omega
      · rw [if_neg ha]; omega
theorem cR_lt {w : Nat → Nat} {fr q g g2 : Nat} (hq : q < 7) (h1 : PW w fr q g) (h2 : ∀ g', g' < g → ¬ PW w fr q g') (hlt : g < g2) : cR w fr g < cR w fr g2 := by
  unfold cR
  apply cnt_str (c := q)
  · rw [cB_f]
    rintro ⟨g', x, y⟩; exact h2 g' x y
  · rw [cB_t]
    exact ⟨g, hlt, h1⟩
  · exact hq
  · intro i hi
    rw [cB_t, cB_t]
    rintro ⟨g', x, y⟩; exact ⟨g', by omega, y⟩
theorem cR_6 {w : Nat → Nat} {fr p g : Nat} (hp : p < 7) (h2 : ∀ g', g' < g → ¬ PW w fr p g') : cR w fr g ≤ 6 := by
  have : cR w fr g < cnt (fun _ => true) 7 := by
    unfold cR
    apply cnt_str (c := p)
    · rw [cB_f]
      rintro ⟨g', x, y⟩; exact h2 g' x y
    · rfl
    · exact hp
    · intro i hi _; rfl
  have h7 : cnt (fun _ => true) 7 = 7 := by decide
  omega
/-- behind k rounds -/
def RK (w : Nat → Nat) (fr k : Nat) (D : Nat → Nat) : Prop := ∀ p g, p < 7 → PW w fr p g → (∀ g', g' < g → ¬ PW w fr p g') → cR w fr g ≤ k → D p ≤ g
theorem RK_0 {w : Nat → Nat} (hV : WV w) {fr : Nat} (hfr : fr < 7) {D : Nat → Nat} (h : D fr = 0) : RK w fr 0 D := by
  intro p g hp h1 h2 h3
  rcases PW_cases h1 with ⟨a, b⟩ | ⟨r, a, g', x1, x2, x3, x4⟩
  · subst a; omega
  · have : 1 ≤ w (43 + r) := (hV.2.2.2.2.2.2.1 r x1).2.2.2.1
    have := cR_lt (w := w) (fr := fr) (q := fr) (g := 0) (g2 := g) hfr .z (fun g' h => by omega) (by omega)
    omega
theorem RK_s {w : Nat → Nat} (hV : WV w) {fr k : Nat} {D D' : Nat → Nat} (h : RK w fr k D) (hle : ∀ p, D' p ≤ D p) (hrx : ∀ r a b, r < w 1 → Ed w r a b → D' b ≤ D a + w (43 + r)) : RK w fr (k + 1) D' := by
  intro p g hp h1 h2 h3
  have h7 := hV.1
  rcases PW_cases h1 with ⟨a, b⟩ | ⟨r, a, g', x1, x2, x3, x4⟩
  · subst b
    have hz := h p 0 hp h1 (fun g' h => by omega) (by
      unfold cR
      rw [cnt_0 7 (fun i hi => by rw [cB_f]; rintro ⟨g', x, -⟩; omega)]
      omega)
    have := hle p
    omega
  · obtain ⟨e1, e2, -, hl, -⟩ := hV.2.2.2.2.2.2.1 r x1
    have ha : a < 7 := by rcases x2 with ⟨y, -⟩ | ⟨y, -⟩ <;> omega
    have hmin : ∀ g2, g2 < g' → ¬ PW w fr a g2 := fun g2 y1 y2 => h2 (g2 + w (43 + r)) (by omega) (.c x1 x2 y2)
    have := cR_lt ha x3 hmin (g2 := g) (by omega)
    have := h a g' ha x3 hmin (by omega)
    have := hrx r a p x1 x2
    omega
theorem RK_le {w : Nat → Nat} {fr k : Nat} {D D' : Nat → Nat} (h : RK w fr k D) (hle : ∀ p, D' p ≤ D p) : RK w fr k D' := fun p g a b c d => Nat.le_trans (hle p) (h p g a b c d)
/-- what is asked of the hours -/
theorem far_iff {w : Nat → Nat} {fr M k : Nat} {D : Nat → Nat} (hS : SD w fr M D) (hR : RK w fr k D) (hk : 6 ≤ k) {p g : Nat} (hp : p < 7) (hg : g < M) : D p ≤ g ↔ ∃ g', g' ≤ g ∧ PW w fr p g' := by
  constructor
  · intro h; exact ⟨D p, h, (hS p).2 (by omega)⟩
  · rintro ⟨g', h1, h2⟩
    obtain ⟨m, a, b⟩ := least_of g' h2
    have hm : m ≤ g' := by
      rcases Nat.lt_or_ge g' m with q | q
      · exact absurd h2 (b g' q)
      · exact q
    have := hR p m hp a b (Nat.le_trans (cR_6 hp b) hk)
    omega
def rep (f : Nat → Int32) (D : Nat → Nat) : Prop := ∀ p, p < 7 → f p = nI (D p)
theorem rep_up {f : Nat → Int32} {D : Nat → Nat} (h : rep f D) (b x : Nat) : rep (upd f b (nI x)) (updN D b x) := by
  intro p hp
  by_cases hb : p = b
  · subst hb; rw [upd_eq, updN_eq]
  · rw [upd_ne _ _ hb, updN_ne _ _ hb]; exact h p hp
theorem updN_self (D : Nat → Nat) (b : Nat) : updN D b (D b) = D := by
  funext p
  by_cases h : p = b
  · subst h; rw [updN_eq]
  · rw [updN_ne _ _ h]
theorem shortC {w : Nat → Nat} {vW : Ob} (hV : WV w) (hC : WC w vW) (V : Ob) {f : Nat → Int32} {D : Nat → Nat} (hf : rep f D) (hD : ∀ p, D p ≤ 1000) {r a b : Nat} (hr : r < w 1) (ha : a < w 0) (hb : b < w 0) : ∃ f', m_X3_shortenBrother (upR V 4 f) vW (nI r) (nI a) (nI b) = some (upR V 4 f') ∧ rep f' (rx D a b (w (43 + r))) := by
  have h7 := hV.1
  obtain ⟨-, -, -, hl1, hl9⟩ := hV.2.2.2.2.2.2.1 r hr
  have h1 := hD a
  have h2 := hD b
  unfold m_X3_shortenBrother m_X3_brotherHoursTo
  rw [hasPlace_y hV hC ha, bnd_s, if1, grd_t (inb_nI (by omega) (by omega)), cl (by omega), upR_eq, bnd_s, roadHours_y hV hC hr, bnd_s, hasPlace_y hV hC hb, bnd_s, if1, grd_t (inb_nI (by omega) (by omega)), cl (by omega), hf a (by omega), hf b (by omega), nI_add]
  unfold rx
  by_cases h : D b ≤ D a + w (43 + r)
  · rw [if_pos (nI_le h (by omega)), if_pos h, updN_self]
    exact ⟨f, rfl, hf⟩
  · rw [if_neg (nI_ge (by omega) (by omega)), if_neg h, grd_t (inb_nI (by omega) (by omega)), st_upR]
    exact ⟨_, rfl, rep_up hf b _⟩
theorem bro42 {w : Nat → Nat} {vW : Ob} (hV : WV w) (hC : WC w vW) (V : Ob) {fr : Nat} (x2 : Int32) : ∀ (n i : Nat) (f : Nat → Int32) (D : Nat → Nat), i ≤ w 1 → w 1 - i < n → rep f D → SD w fr 1000 D →
    ∃ f' D', m_X3_measureBrother_L42 vW n (upR V 4 f) x2 (nI i) = some (upR V 4 f', x2) ∧ rep f' D' ∧ SD w fr 1000 D' ∧ (∀ p, D' p ≤ D p) ∧ ∀ r a b, i ≤ r → r < w 1 → Ed w r a b → D' b ≤ D a + w (43 + r)
  | 0, i, f, D, hi, hn, _, _ => by omega
  | n + 1, i, f, D, hi, hn, hf, hS => by
    have h9 := hV.2.1
    show ∃ f' D', m_X3_measureBrother_L42B vW (m_X3_measureBrother_L42 vW n) (upR V 4 f) x2 (nI i) = some (upR V 4 f', x2) ∧ _
    unfold m_X3_measureBrother_L42B
    rw [hC.2.1]
    by_cases hlt : i < w 1
    · obtain ⟨ha, hb, hab, hl1, hl9⟩ := hV.2.2.2.2.2.2.1 i hlt
      rw [if_neg (nI_ge hlt (by omega)), roadStart_y hV hC hlt, bnd_s, roadEnd_y hV hC hlt, bnd_s]
      have ed1 : Ed w i (w (25 + i)) (w (34 + i)) := Or.inl ⟨rfl, rfl⟩
      have ed2 : Ed w i (w (34 + i)) (w (25 + i)) := Or.inr ⟨rfl, rfl⟩
      obtain ⟨f1, a1, a2⟩ := shortC hV hC V hf (fun p => (hS p).1) hlt ha hb
      have s1 := rx_SD hS hlt ed1
      obtain ⟨f2, b1, b2⟩ := shortC hV hC V a2 (fun p => (s1 p).1) hlt hb ha
      have s2 := rx_SD s1 hlt ed2
      rw [a1, bnd_s, bnd_s, bnd_s, b1, bnd_s, nI_1]
      obtain ⟨f', D', q1, q2, q3, q4, q5⟩ := bro42 hV hC V (fr := fr) x2 n (i + 1) f2 _ (by omega) (by omega) b2 s2
      have l1 := fun p => rx_le D (w (25 + i)) (w (34 + i)) (w (43 + i)) p
      have l2 := fun p => rx_le (rx D (w (25 + i)) (w (34 + i)) (w (43 + i))) (w (34 + i)) (w (25 + i)) (w (43 + i)) p
      refine ⟨f', D', q1, q2, q3, fun p => ?_, fun r a b x1 x2 x3 => ?_⟩
      · have := q4 p; have := l1 p; have := l2 p; omega
      · by_cases hri : r = i
        · subst hri
          rcases x3 with ⟨y1, y2⟩ | ⟨y1, y2⟩
          · subst y1; subst y2
            have e1 := rx_b D (w (25 + r)) (w (34 + r)) (w (43 + r))
            have := q4 (w (34 + r)); have := l2 (w (34 + r))
            omega
          · subst y1; subst y2
            have e1 := rx_b (rx D (w (25 + r)) (w (34 + r)) (w (43 + r))) (w (34 + r)) (w (25 + r)) (w (43 + r))
            have := q4 (w (25 + r)); have := l1 (w (34 + r))
            omega
        · have := q5 r a b (by omega) x2 x3
          have := l1 a; have := l2 a
          omega
    · rw [if_pos (nI_le (by omega) (by omega))]
      exact ⟨f, D, rfl, hf, hS, fun p => Nat.le_refl _, fun r a b x1 x2 => by omega⟩
theorem bro34 {w : Nat → Nat} {vW : Ob} (hV : WV w) (hC : WC w vW) (V : Ob) {fr : Nat} : ∀ (n i : Nat) (f : Nat → Int32) (D : Nat → Nat), 1 ≤ i → i ≤ 7 → 7 - i < n → rep f D → SD w fr 1000 D → RK w fr (i - 1) D →
    ∃ f' D', m_X3_measureBrother_L34 vW n (upR V 4 f) (nI i) = some (upR V 4 f') ∧ rep f' D' ∧ SD w fr 1000 D' ∧ RK w fr 6 D'
  | 0, i, f, D, h1, hi, hn, _, _, _ => by omega
  | n + 1, i, f, D, h1, hi, hn, hf, hS, hR => by
    have h9 := hV.2.1
    show ∃ f' D', m_X3_measureBrother_L34B vW (m_X3_measureBrother_L34 vW n) (upR V 4 f) (nI i) = some (upR V 4 f') ∧ _
    unfold m_X3_measureBrother_L34B
    rw [show (7 : Int32) = nI 7 from rfl]
    by_cases hlt : i < 7
    · rw [if_neg (nI_ge hlt (by omega))]
      obtain ⟨f1, D1, q1, q2, q3, q4, q5⟩ := bro42 hV hC V (fr := fr) (nI i) FU 0 f D (by omega) (by unfold FU; omega) hf hS
      have q1' : m_X3_measureBrother_L42 vW FU (upR V 4 f) (nI i) 0 = _ := q1
      rw [q1', bnd_s]
      dsimp only
      rw [nI_1]
      have hR1 := RK_s hV hR q4 (fun r a b x1 x2 => q5 r a b (Nat.zero_le _) x1 x2)
      rw [show i - 1 + 1 = (i + 1) - 1 by omega] at hR1
      exact bro34 hV hC V n (i + 1) f1 D1 (by omega) (by omega) (by omega) q2 q3 hR1
    · rw [if_pos (nI_le (by omega) (by omega))]
      have : i = 7 := by omega
      subst this
      exact ⟨f, D, rfl, hf, hS, hR⟩
def D0 (fr M : Nat) : Nat → Nat := fun p => if p = fr then 0 else M
theorem D0_SD {w : Nat → Nat} {fr M : Nat} : SD w fr M (D0 fr M) := by
  intro p
  unfold D0
  by_cases h : p = fr
  · subst h; rw [if_pos rfl]; exact ⟨Nat.zero_le _, fun _ => .z⟩
  · rw [if_neg h]; exact ⟨Nat.le_refl _, fun q => by omega⟩
theorem bro2 {vW : Ob} (V : Ob) {fr : Nat} (hfr : fr < 7) : ∀ (n i : Nat) (f : Nat → Int32), i ≤ 7 → 7 - i < n → (∀ p, p < i → f p = nI (D0 fr 1000 p)) → ∃ f', m_X3_measureBrother_L2 vW n (upR V 4 f) (nI fr) (nI i) = some (upR V 4 f') ∧ rep f' (D0 fr 1000)
  | 0, i, f, hi, hn, _ => by omega
  | n + 1, i, f, hi, hn, hf => by
    show ∃ f', m_X3_measureBrother_L2B vW (m_X3_measureBrother_L2 vW n) (upR V 4 f) (nI fr) (nI i) = some (upR V 4 f') ∧ _
    unfold m_X3_measureBrother_L2B m_X3_measureBrother_j25
    rw [show (7 : Int32) = nI 7 from rfl]
    by_cases hlt : i < 7
    · rw [if_neg (nI_ge hlt (by omega)), if_nI (by omega) (by omega), grd_t (inb_nI (by omega) (by omega)), grd_t (inb_nI (by omega) (by omega)), cl (by omega), st_upR, st_upR, nI_1]
      have go : ∀ x : Int32, x = nI (D0 fr 1000 i) → ∃ f', m_X3_measureBrother_L2 vW n (upR V 4 (upd f i x)) (nI fr) (nI (i + 1)) = some (upR V 4 f') ∧ rep f' (D0 fr 1000) := by
        intro x hx
        refine bro2 V hfr n (i + 1) _ (by omega) (by omega) (fun p hp => ?_)
        by_cases hpi : p = i
        · subst hpi; rw [upd_eq, hx]
        · rw [upd_ne _ _ hpi]; exact hf p (by omega)
      by_cases hif : i = fr
      · rw [if_pos hif]; exact go 0 (by unfold D0; rw [if_pos hif]; rfl)
      · rw [if_neg hif]; exact go 1000 (by unfold D0; rw [if_neg hif]; rfl)
    · rw [if_pos (nI_le (by omega) (by omega))]
      exact ⟨f, rfl, fun p hp => hf p (by omega)⟩
theorem broC {w : Nat → Nat} {vW : Ob} (hV : WV w) (hC : WC w vW) (V : Ob) {fr : Nat} (hfr : fr < w 0) : ∃ f D, m_X3_measureBrother V vW (nI fr) = some (upR V 4 f) ∧ rep f D ∧ SD w fr 1000 D ∧ RK w fr 6 D := by
  have h7 := hV.1
  obtain ⟨f1, a1, a2⟩ := bro2 (vW := vW) V (fr := fr) (by omega) FU 0 (V 4) (by omega) (by unfold FU; omega) (fun p hp => by omega)
  rw [upR_self] at a1
  have a1' : m_X3_measureBrother_L2 vW FU V (nI fr) 0 = _ := a1
  obtain ⟨f2, D, b1, b2, b3, b4⟩ := bro34 hV hC V (fr := fr) FU 1 f1 (D0 fr 1000) (by omega) (by omega) (by unfold FU; omega) a2 D0_SD (RK_0 hV (by omega) (by unfold D0; rw [if_pos rfl]))
  have b1' : m_X3_measureBrother_L34 vW FU (upR V 4 f1) 1 = _ := b1
  exact ⟨f2, D, by unfold m_X3_measureBrother; rw [a1', bnd_s, b1', bnd_s], b2, b3, b4⟩
/-! the reference's -/
theorem far42 {w : Nat → Nat} (hV : WV w) (V : Ob) (hM : WM w (V 1)) {fr : Nat} (x2 : Int32) : ∀ (n i : Nat) (f : Nat → Int32) (D : Nat → Nat), i ≤ w 1 → w 1 - i < n → rep f D → SD w fr 9999 D →
    ∃ f' D', m_X6_layFar_L42 n (upR V 26 f) x2 (nI i) = some (upR V 26 f', x2) ∧ rep f' D' ∧ SD w fr 9999 D' ∧ (∀ p, D' p ≤ D p) ∧ ∀ r a b, i ≤ r → r < w 1 → Ed w r a b → D' b ≤ D a + w (43 + r)
  | 0, i, f, D, hi, hn, _, _ => by omega
  | n + 1, i, f, D, hi, hn, hf, hS => by
    have h9 := hV.2.1
    have h7 := hV.1
    show ∃ f' D', m_X6_layFar_L42B (m_X6_layFar_L42 n) (upR V 26 f) x2 (nI i) = some (upR V 26 f', x2) ∧ _
    unfold m_X6_layFar_L42B
    rw [upR_ne _ _ (show 1 ≠ 26 by omega), c1, hM.2.1]
    by_cases hlt : i < w 1
    · obtain ⟨ha, hb, hab, hl1, hl9⟩ := hV.2.2.2.2.2.2.1 i hlt
      have e25 : (25 : Int32) + nI i = nI (25 + i) := nI_add 25 i
      have e34 : (34 : Int32) + nI i = nI (34 + i) := nI_add 34 i
      have e43 : (43 : Int32) + nI i = nI (43 + i) := nI_add 43 i
      have ed1 : Ed w i (w (25 + i)) (w (34 + i)) := Or.inl ⟨rfl, rfl⟩
      have ed2 : Ed w i (w (34 + i)) (w (25 + i)) := Or.inr ⟨rfl, rfl⟩
      have s1 := rx_SD hS hlt ed2
      have s2 := rx_SD s1 hlt ed1
      have dA := (hS (w (25 + i))).1
      have dB := (hS (w (34 + i))).1
      rw [if_neg (nI_ge hlt (by omega)), e25, e34, e43, grd_t (inb_nI (by omega) (by omega)), grd_t (inb_nI (by omega) (by omega)), grd_t (inb_nI (by omega) (by omega)), cl (by omega), cl (by omega), cl (by omega), (hM.2.2.2.2.2.1 i hlt).1, (hM.2.2.2.2.2.1 i hlt).2.1, (hM.2.2.2.2.2.1 i hlt).2.2, grd_t (inb_nI (by omega) (by omega)), grd_t (inb_nI (by omega) (by omega)), upR_eq, cl (by omega), cl (by omega), hf _ (by omega), hf _ (by omega), nI_add]
      have tail : ∃ f' D', m_X6_layFar_j131 (m_X6_layFar_L42 n) (upR V 26 f) x2 (nI i) (nI (w (25 + i))) (nI (w (34 + i))) (nI (w (43 + i))) (nI (w (25 + i))) (nI (rx D (w (34 + i)) (w (25 + i)) (w (43 + i)) (w (25 + i)))) = some (upR V 26 f', x2) ∧ rep f' D' ∧ SD w fr 9999 D' ∧ (∀ p, D' p ≤ D p) ∧ ∀ r a b, i ≤ r → r < w 1 → Ed w r a b → D' b ≤ D a + w (43 + r) := by
        have f1 : rep (upd f (w (25 + i)) (nI (rx D (w (34 + i)) (w (25 + i)) (w (43 + i)) (w (25 + i))))) (rx D (w (34 + i)) (w (25 + i)) (w (43 + i))) := by
          have := rep_up hf (w (25 + i)) (if D (w (25 + i)) ≤ D (w (34 + i)) + w (43 + i) then D (w (25 + i)) else D (w (34 + i)) + w (43 + i))
          unfold rx
          rw [updN_eq]
          exact this
        have dA1 := (s1 (w (25 + i))).1
        have dB1 := (s1 (w (34 + i))).1
        unfold m_X6_layFar_j131 m_X6_layFar_j178
        rw [grd_t (inb_nI (by omega) (by omega)), grd_t (inb_nI (by omega) (by omega)), grd_t (inb_nI (by omega) (by omega)), grd_t (inb_nI (by omega) (by omega)), grd_t (inb_nI (by omega) (by omega)), upR_eq, cl (by omega), cl (by omega), f1 _ (by omega), f1 _ (by omega), nI_add, st_upR, st_upR, st_upR, nI_1]
        have go : ∀ x, x = (if rx D (w (34 + i)) (w (25 + i)) (w (43 + i)) (w (34 + i)) ≤ rx D (w (34 + i)) (w (25 + i)) (w (43 + i)) (w (25 + i)) + w (43 + i) then rx D (w (34 + i)) (w (25 + i)) (w (43 + i)) (w (34 + i)) else rx D (w (34 + i)) (w (25 + i)) (w (43 + i)) (w (25 + i)) + w (43 + i)) → ∃ f' D', m_X6_layFar_L42 n (upR V 26 (upd (upd f (w (25 + i)) (nI (rx D (w (34 + i)) (w (25 + i)) (w (43 + i)) (w (25 + i))))) (w (34 + i)) (nI x))) x2 (nI (i + 1)) = some (upR V 26 f', x2) ∧ rep f' D' ∧ SD w fr 9999 D' ∧ (∀ p, D' p ≤ D p) ∧ ∀ r a b, i ≤ r → r < w 1 → Ed w r a b → D' b ≤ D a + w (43 + r) := by
          intro x hx
          have f2 := rep_up f1 (w (34 + i)) x
          rw [hx] at f2
          have f2' : rep (upd (upd f (w (25 + i)) (nI (rx D (w (34 + i)) (w (25 + i)) (w (43 + i)) (w (25 + i))))) (w (34 + i)) (nI x)) (rx (rx D (w (34 + i)) (w (25 + i)) (w (43 + i))) (w (25 + i)) (w (34 + i)) (w (43 + i))) := by
            rw [hx]; exact f2
          obtain ⟨f', D', q1, q2, q3, q4, q5⟩ := far42 hV V hM (fr := fr) x2 n (i + 1) _ _ (by omega) (by omega) f2' s2
          have l1 := fun p => rx_le D (w (34 + i)) (w (25 + i)) (w (43 + i)) p
          have l2 := fun p => rx_le (rx D (w (34 + i)) (w (25 + i)) (w (43 + i))) (w (25 + i)) (w (34 + i)) (w (43 + i)) p
          refine ⟨f', D', q1, q2, q3, fun p => ?_, fun r a b x1 x2 x3 => ?_⟩
          · have := q4 p; have := l1 p; have := l2 p; omega
          · by_cases hri : r = i
            · subst hri
              rcases x3 with ⟨y1, y2⟩ | ⟨y1, y2⟩
              · subst y1; subst y2
                have e1 := rx_b (rx D (w (34 + r)) (w (25 + r)) (w (43 + r))) (w (25 + r)) (w (34 + r)) (w (43 + r))
                have := q4 (w (34 + r)); have := l1 (w (25 + r))
                omega
              · subst y1; subst y2
                have e1 := rx_b D (w (34 + r)) (w (25 + r)) (w (43 + r))
                have := q4 (w (25 + r)); have := l2 (w (25 + r))
                omega
            · have := q5 r a b (by omega) x2 x3
              have := l1 a; have := l2 a
              omega
        by_cases h : rx D (w (34 + i)) (w (25 + i)) (w (43 + i)) (w (34 + i)) ≤ rx D (w (34 + i)) (w (25 + i)) (w (43 + i)) (w (25 + i)) + w (43 + i)
        · rw [if_pos (nI_le h (by omega))]
          exact go _ (by rw [if_pos h])
        · rw [if_neg (nI_ge (by omega) (by omega)), grd_t (inb_nI (by omega) (by omega)), grd_t (inb_nI (by omega) (by omega))]
          exact go _ (by rw [if_neg h])
      have hrx : rx D (w (34 + i)) (w (25 + i)) (w (43 + i)) (w (25 + i)) = if D (w (25 + i)) ≤ D (w (34 + i)) + w (43 + i) then D (w (25 + i)) else D (w (34 + i)) + w (43 + i) := by unfold rx; rw [updN_eq]
      by_cases h : D (w (25 + i)) ≤ D (w (34 + i)) + w (43 + i)
      · rw [if_pos (nI_le h (by omega)), grd_t (inb_nI (by omega) (by omega))]
        rw [hrx, if_pos h] at tail
        exact tail
      · rw [if_neg (nI_ge (by omega) (by omega)), grd_t (inb_nI (by omega) (by omega))]
        rw [hrx, if_neg h] at tail
        exact tail
    · rw [if_pos (nI_le (by omega) (by omega))]
      exact ⟨f, D, rfl, hf, hS, fun p => Nat.le_refl _, fun r a b x1 x2 => by omega⟩
theorem far34 {w : Nat → Nat} (hV : WV w) (V : Ob) (hM : WM w (V 1)) {fr : Nat} : ∀ (n i : Nat) (f : Nat → Int32) (D : Nat → Nat), i ≤ 7 → 7 - i < n → rep f D → SD w fr 9999 D → RK w fr i D →
    ∃ f' D', m_X6_layFar_L34 n (upR V 26 f) (nI i) = some (upR V 26 f') ∧ rep f' D' ∧ SD w fr 9999 D' ∧ RK w fr 7 D'
  | 0, i, f, D, hi, hn, _, _, _ => by omega
  | n + 1, i, f, D, hi, hn, hf, hS, hR => by
    have h9 := hV.2.1
    show ∃ f' D', m_X6_layFar_L34B (m_X6_layFar_L34 n) (upR V 26 f) (nI i) = some (upR V 26 f') ∧ _
    unfold m_X6_layFar_L34B
    rw [show (7 : Int32) = nI 7 from rfl]
    by_cases hlt : i < 7
    · rw [if_neg (nI_ge hlt (by omega))]
      obtain ⟨f1, D1, q1, q2, q3, q4, q5⟩ := far42 hV V hM (fr := fr) (nI i) FU 0 f D (by omega) (by unfold FU; omega) hf hS
      have q1' : m_X6_layFar_L42 FU (upR V 26 f) (nI i) 0 = _ := q1
      rw [q1', bnd_s]
      dsimp only
      rw [nI_1]
      exact far34 hV V hM n (i + 1) f1 D1 (by omega) (by omega) q2 q3 (RK_s hV hR q4 (fun r a b x1 x2 => q5 r a b (Nat.zero_le _) x1 x2))
    · rw [if_pos (nI_le (by omega) (by omega))]
      have : i = 7 := by omega
      subst this
      exact ⟨f, D, rfl, hf, hS, hR⟩
theorem far2 (V : Ob) {fr : Nat} (hfr : fr < 7) : ∀ (n i : Nat) (f : Nat → Int32), i ≤ 7 → 7 - i < n → (∀ p, p < i → f p = nI (D0 fr 9999 p)) → ∃ f', m_X6_layFar_L2 n (upR V 26 f) (nI fr) (nI i) = some (upR V 26 f') ∧ rep f' (D0 fr 9999)
  | 0, i, f, hi, hn, _ => by omega
  | n + 1, i, f, hi, hn, hf => by
    show ∃ f', m_X6_layFar_L2B (m_X6_layFar_L2 n) (upR V 26 f) (nI fr) (nI i) = some (upR V 26 f') ∧ _
    unfold m_X6_layFar_L2B m_X6_layFar_j25
    rw [show (7 : Int32) = nI 7 from rfl]
    by_cases hlt : i < 7
    · rw [if_neg (nI_ge hlt (by omega)), if_nI (by omega) (by omega), grd_t (inb_nI (by omega) (by omega)), grd_t (inb_nI (by omega) (by omega)), cl (by omega), st_upR, st_upR, nI_1]
      have go : ∀ x : Int32, x = nI (D0 fr 9999 i) → ∃ f', m_X6_layFar_L2 n (upR V 26 (upd f i x)) (nI fr) (nI (i + 1)) = some (upR V 26 f') ∧ rep f' (D0 fr 9999) := by
        intro x hx
        refine far2 V hfr n (i + 1) _ (by omega) (by omega) (fun p hp => ?_)
        by_cases hpi : p = i
        · subst hpi; rw [upd_eq, hx]
        · rw [upd_ne _ _ hpi]; exact hf p (by omega)
      by_cases hif : i = fr
      · rw [if_pos hif]; exact go 0 (by unfold D0; rw [if_pos hif]; rfl)
      · rw [if_neg hif]; exact go 9999 (by unfold D0; rw [if_neg hif]; rfl)
    · rw [if_pos (nI_le (by omega) (by omega))]
      exact ⟨f, rfl, fun p hp => hf p (by omega)⟩
theorem farM {w : Nat → Nat} (hV : WV w) (V : Ob) (hM : WM w (V 1)) {fr : Nat} (hfr : fr < w 0) : ∃ f D, m_X6_layFar V (nI fr) = some (upR V 26 f) ∧ rep f D ∧ SD w fr 9999 D ∧ RK w fr 7 D := by
  have h7 := hV.1
  obtain ⟨f1, a1, a2⟩ := far2 V (fr := fr) (by omega) FU 0 (V 26) (by omega) (by unfold FU; omega) (fun p hp => by omega)
  rw [upR_self] at a1
  have a1' : m_X6_layFar_L2 FU V (nI fr) 0 = _ := a1
  obtain ⟨f2, D, b1, b2, b3, b4⟩ := far34 hV V hM (fr := fr) FU 0 f1 (D0 fr 9999) (by omega) (by unfold FU; omega) a2 D0_SD (RK_0 hV (by omega) (by unfold D0; rw [if_pos rfl]))
  have b1' : m_X6_layFar_L34 FU (upR V 26 f1) 0 = _ := b1
  exact ⟨f2, D, by unfold m_X6_layFar; rw [a1', bnd_s, b1', bnd_s], b2, b3, b4⟩
end
