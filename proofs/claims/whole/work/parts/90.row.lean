section
/-! PURE: the reference lays the same way -/
theorem least17 {w : Nat → Nat} (hV : WV w) {H p0 s0 t e k p s : Nat} {v : Ob} (hR : RN w 99 99 H p0 s0 v) (hk : k ≤ e) (he : e ≤ 60) (hp : p < 7) (hs : s < 32) (hm : ∀ k p s, k ≤ e → p < w 0 → s < 32 → (MB (v 18) k p s = true ↔ CB w H 99 99 t e k p s)) : ∀ (n i : Nat), i ≤ w 1 → w 1 - i < n →
    (∃ r, i ≤ r ∧ r < w 1 ∧ OK w H t e k p s (1 + r) ∧ (∀ r', i ≤ r' → r' < r → ¬ OK w H t e k p s (1 + r')) ∧ m_X6_leastStep_L17 v n (nI k) (nI p) (nI s) (nI e) (nI i) = some (Sum.inl (nI (1 + r)))) ∨ ((∀ r, i ≤ r → r < w 1 → ¬ OK w H t e k p s (1 + r)) ∧ m_X6_leastStep_L17 v n (nI k) (nI p) (nI s) (nI e) (nI i) = some (Sum.inr (nI k, nI p, nI s)))
  | 0, i, hi, hn => by omega
  | n + 1, i, hi, hn => by
    have h9 := hV.2.1
    have hdef : m_X6_leastStep_L17 v (n + 1) (nI k) (nI p) (nI s) (nI e) (nI i) = m_X6_leastStep_L17B v (m_X6_leastStep_L17 v n) (nI k) (nI p) (nI s) (nI e) (nI i) := rfl
    rw [hdef]
    unfold m_X6_leastStep_L17B
    rw [c1, hR.1.2.1]
    by_cases hlt : i < w 1
    · rw [if_neg (nI_ge hlt (by omega))]
      obtain ⟨b, q1, q2⟩ := leads_e hV hR hk he hp hs hlt
      have hok : LD w H 99 (v 18) e k p s i ↔ OK w H t e k p s (1 + i) := by
        constructor
        · rintro ⟨z1, z2, q, s', z3, z4⟩
          have hin := sWalk_in hV hlt hs z3
          exact ⟨_, q, s', Or.inr (Or.inl ⟨i, rfl, hlt, z1, rfl, z3⟩), (hm _ _ _ z2 hin.2.1 hin.2.2).mp z4⟩
        · rintro ⟨k', q, s', (⟨y1, -⟩ | ⟨r, y1, y2, y3, y4, y5⟩ | ⟨h, y1, -⟩), y⟩
          · omega
          · have : r = i := by omega
            subst this
            subst y4
            have hin := sWalk_in hV y2 hs y5
            have hle := CB_le y
            exact ⟨y3, hle, q, s', y5, (hm _ _ _ hle hin.2.1 hin.2.2).mpr y⟩
          · omega
      rw [q1, bnd_s]
      cases b with
      | true =>
        rw [if_neg (by decide)]
        exact Or.inl ⟨i, Nat.le_refl _, hlt, hok.mp (q2.mp rfl), fun r' z1 z2 => by omega, by rw [show (1 : Int32) = nI 1 from rfl, nI_add]⟩
      | false =>
        have hno : ¬ OK w H t e k p s (1 + i) := fun z => by have := q2.mpr (hok.mpr z); cases this
        rw [if_pos (by decide), nI_1]
        rcases least17 hV hR hk he hp hs hm n (i + 1) (by omega) (by omega) with ⟨r, z1, z2, z3, z4, z5⟩ | ⟨z1, z2⟩
        · refine Or.inl ⟨r, by omega, z2, z3, fun r' y1 y2 => ?_, z5⟩
          by_cases h : r' = i
          · subst h; exact hno
          · exact z4 r' (by omega) y2
        · refine Or.inr ⟨fun r y1 y2 => ?_, z2⟩
          by_cases h : r = i
          · subst h; exact hno
          · exact z1 r (by omega) y2
    · rw [if_pos (nI_le (by omega) (by omega))]
      exact Or.inr ⟨fun r z1 z2 => by omega, rfl⟩
theorem least56 {w : Nat → Nat} (hV : WV w) {H p0 s0 t e k p s h : Nat} {v : Ob} (hR : RN w 99 99 H p0 s0 v) (hk : k ≤ e) (he : e ≤ 60) (hp : p < w 0) (hs : s < 32) (hm : ∀ k p s, k ≤ e → p < w 0 → s < 32 → (MB (v 18) k p s = true ↔ CB w H 99 99 t e k p s)) (hh : h < w 2) (h1 : OK w H t e k p s (11 + h)) (h2 : ∀ h', h' < h → ¬ OK w H t e k p s (11 + h')) : ∀ (n i : Nat), i ≤ h → h - i < n → m_X6_leastStep_L56 v n (nI k) (nI p) (nI s) (nI i) = some (nI h)
  | 0, i, hi, hn => by omega
  | n + 1, i, hi, hn => by
    have h7 := hV.1
    have h9 := hV.2.1
    have h6 := hV.2.2.1
    have hdef : m_X6_leastStep_L56 v (n + 1) (nI k) (nI p) (nI s) (nI i) = m_X6_leastStep_L56B v (m_X6_leastStep_L56 v n) (nI k) (nI p) (nI s) (nI i) := rfl
    rw [hdef]
    unfold m_X6_leastStep_L56B
    have hlt : i < w 2 := by omega
    obtain ⟨b, q1, q2⟩ := asks_e hV hR (k := k) (by omega) (p := p) (by omega) hs hlt
    have hok : AK w 99 (v 18) k p s i ↔ OK w H t e k p s (11 + i) := by
      constructor
      · rintro ⟨z1, s', z3, z4⟩
        have hin := sGive_in hV hlt hs z3
        exact ⟨k, p, s', Or.inr (Or.inr ⟨i, rfl, hlt, z1, rfl, rfl, z3⟩), (hm _ _ _ hk hp hin.1).mp z4⟩
      · rintro ⟨k', q, s', (⟨y1, -⟩ | ⟨r, y1, y2, -⟩ | ⟨g, y1, y2, y3, y4, y5, y6⟩), y⟩
        · omega
        · omega
        · have : g = i := by omega
          subst this
          subst y4; subst y5
          have hin := sGive_in hV y2 hs y6
          exact ⟨y3, s', y6, (hm _ _ _ hk hp hin.1).mpr y⟩
    rw [q1, bnd_s]
    by_cases hih : i = h
    · subst hih
      have hb : b = true := q2.mpr (hok.mpr h1)
      rw [hb, if_neg (by decide)]
    · have hb : b = false := by
        cases b with
        | false => rfl
        | true => exact absurd (hok.mp (q2.mp rfl)) (h2 i (by omega))
      rw [hb, if_pos (by decide), nI_1]
      exact least56 hV hR hk he hp hs hm hh h1 h2 n (i + 1) (by omega) (by omega)
theorem leastM {w : Nat → Nat} (hV : WV w) {H p0 s0 t e σ k p s k' p' s' : Nat} {v : Ob} (hR : RN w 99 99 H p0 s0 v) (he : e ≤ 60) (hs : s < 32) (hm : ∀ k p s, k ≤ e → p < w 0 → s < 32 → (MB (v 18) k p s = true ↔ CB w H 99 99 t e k p s)) (hL : Lst w H t e σ k p s k' p' s') : m_X6_leastStep v (nI k) (nI p) (nI s) (nI e) = some (nI σ) := by
  have h7 := hV.1
  have h9 := hV.2.1
  have h6 := hV.2.2.1
  obtain ⟨o1, o2⟩ := Lst_OK hL
  have hin := Sp_in hV hs hL.1
  have hk : k ≤ e := by have := CB_le hL.2.1; omega
  have hp := hin.1
  have hW : OK w H t e k p s 0 ↔ (k < e ∧ MB (v 18) (k + 1) p s = true) := by
    constructor
    · rintro ⟨k1, q, s1, (⟨-, z1, z2, z3, z4⟩ | ⟨r, z1, -⟩ | ⟨h, z1, -⟩), y⟩
      · subst z2; subst z3; subst z4
        have := CB_le y
        exact ⟨by omega, (hm _ _ _ (by omega) hp hs).mpr y⟩
      · omega
      · omega
    · rintro ⟨z1, z2⟩; exact ⟨k + 1, p, s, Or.inl ⟨rfl, hp, rfl, rfl, rfl⟩, (hm _ _ _ (by omega) hp hs).mp z2⟩
  obtain ⟨b, q1, q2⟩ := waits_e (w := w) v hk he (p := p) (by omega) hs
  unfold m_X6_leastStep
  rw [q1, bnd_s]
  cases b with
  | true =>
    rw [if_neg (by decide), OK_uniq o1 o2 (hW.mpr (q2.mp rfl)) (fun x hx => by omega)]; rfl
  | false =>
    have hw : ¬ OK w H t e k p s 0 := fun z => by have := q2.mpr (hW.mp z); cases this
    rw [if_pos (by decide)]
    rcases least17 hV hR hk he (p := p) (by omega) hs hm FU 0 (by omega) (by unfold FU; omega) with ⟨r, z1, z2, z3, z4, z5⟩ | ⟨z1, z2⟩
    · have z5' : m_X6_leastStep_L17 v FU (nI k) (nI p) (nI s) (nI e) 0 = _ := z5
      rw [z5', bnd_s, sm_l, OK_uniq o1 o2 z3 (fun x hx => by
        rcases Nat.eq_zero_or_pos x with y | y
        · subst y; exact hw
        · have := z4 (x - 1) (by omega) (by omega)
          rwa [show 1 + (x - 1) = x by omega] at this)]
    · have z2' : m_X6_leastStep_L17 v FU (nI k) (nI p) (nI s) (nI e) 0 = _ := z2
      rw [z2', bnd_s, sm_r]
      dsimp only
      have low : ∀ x, x < 11 → ¬ OK w H t e k p s x := by
        intro x hx
        rcases Nat.eq_zero_or_pos x with y | y
        · subst y; exact hw
        · by_cases hx1 : x - 1 < w 1
          · have := z1 (x - 1) (by omega) hx1
            rwa [show 1 + (x - 1) = x by omega] at this
          · rintro ⟨k1, q, s1, (⟨y1, -⟩ | ⟨r, y1, y2, -⟩ | ⟨h, y1, -⟩), -⟩ <;> omega
      have h11 : ¬ σ < 11 := fun z => low σ z o1
      obtain ⟨k1, q, s1, hsp, -⟩ := id o1
      rcases hsp with ⟨x1, -⟩ | ⟨r, x1, x2, -⟩ | ⟨h, x1, x2, -⟩
      · omega
      · omega
      · subst x1
        have := least56 hV hR hk he hp hs hm x2 o1 (fun h' hh' => o2 _ (by omega)) FU 0 (by omega) (by unfold FU; omega)
        have this' : m_X6_leastStep_L56 v FU (nI k) (nI p) (nI s) 0 = _ := this
        rw [this', bnd_s, show (11 : Int32) = nI 11 from rfl, nI_add]
/-- which steps enter with the thing -/
def EB (t : Nat) (σ S : Nat → Nat) (j : Nat) : Bool := decide (1 ≤ σ j ∧ σ j < 11 ∧ (S j).testBit t = true)
def RS (w : Nat → Nat) (H t p0 s0 : Nat) (σ K P S : Nat → Nat) (V : Ob) (m : Nat → Int32) (i : Nat) (v : Ob) : Prop := RN w 99 99 H p0 s0 v ∧ v 18 = m ∧ v 0 21 = nI i ∧ (∀ j, j < i → v 21 j = nI (σ j)) ∧ v 0 24 = nI (cnt (EB t σ S) i) ∧ (∀ j, j < i → EB t σ S j = true → v 23 (cnt (EB t σ S) j) = nI (P (j + 1)) ∧ v 24 (cnt (EB t σ S) j) = nI (K (j + 1))) ∧ FrM V v
theorem cnt_le (B : Nat → Bool) : ∀ n, cnt B n ≤ n
  | 0 => Nat.le_refl _
  | n + 1 => by
    have := cnt_le B n
    show cnt B n + (if B n = true then 1 else 0) ≤ n + 1
    split <;> omega
theorem cnt_s (B : Nat → Bool) (n : Nat) : cnt B (n + 1) = cnt B n + (if B n = true then 1 else 0) := rfl
theorem cnt_mono (B : Nat → Bool) (i : Nat) : ∀ d, cnt B i ≤ cnt B (i + d)
  | 0 => Nat.le_refl _
  | d + 1 => by
    have := cnt_mono B i d
    show _ ≤ cnt B (i + d) + (if B (i + d) = true then 1 else 0)
    omega
theorem cnt_lt {B : Nat → Bool} {j i : Nat} (h : j < i) (hb : B j = true) : cnt B j < cnt B i := by
  have := cnt_mono B (j + 1) (i - (j + 1))
  rw [show j + 1 + (i - (j + 1)) = i by omega, cnt_s, if_pos hb] at this
  omega
theorem RN.keep {w : Nat → Nat} {nr nh H p0 s0 : Nat} {v v' : Ob} (h : RN w nr nh H p0 s0 v) (h1 : v' 1 = v 1) (h3 : v' 3 = v 3) (a : v' 0 18 = v 0 18) (b : v' 0 19 = v 0 19) : RN w nr nh H p0 s0 v' := by
  unfold RN
  rw [h1, h3, a, b]
  exact h
theorem row_step {w : Nat → Nat} (hV : WV w) {H t e p0 s0 n : Nat} {σ K P S : Nat → Nat} {V : Ob} {m : Nat → Int32} (ht : t < 5) (he : e ≤ 60) (hp0 : p0 < 7) (hs0 : s0 < 32) (hm : ∀ k p s, k ≤ e → p < w 0 → s < 32 → (MB m k p s = true ↔ CB w H 99 99 t e k p s)) (hW : Wy w H t e p0 s0 n σ K P S) (hn : n ≤ 100) {i : Nat} (hi : i < n) {v : Ob} (hR : RS w H t p0 s0 σ K P S V m i v) (rc : Ob → Int32 → Int32 → Int32 → Int32 → Int32 → Option Ob) :
    ∃ v', m_X6_layRow_j47 rc v (nI t) (nI e) (nI (K i)) (nI (P i)) (nI (S i)) = rc v' (nI t) (nI e) (nI (K (i + 1))) (nI (P (i + 1))) (nI (S (i + 1))) ∧ RS w H t p0 s0 σ K P S V m (i + 1) v' := by
  have h7 := hV.1
  have h9 := hV.2.1
  have h6 := hV.2.2.1
  obtain ⟨r1, r2, r3, r4, r5, r6, r7⟩ := hR
  obtain ⟨hPi, hSi⟩ := wy_S hV hW hp0 hs0 (i := i) (by omega)
  have hL := hW.2.1 i hi
  have hK := CB_le (wy_CB hW (i := i) (by omega))
  have hls := leastM hV r1 he hSi (by rw [r2]; exact hm) hL
  have hM := r1.1
  have hH := r1.2.2.2.2.2.2.1
  have hc := cnt_le (EB t σ S) i
  unfold m_X6_layRow_j47 m_X6_layRow_j209 m_X6_layRow_j213
  rw [hls, bnd_s, r3, grd_t (inb_nI (by omega) (by omega)), cl (by omega), nI_1]
  have base : ∀ x : Int32, ∀ v1, v1 = st (st v 21 i x) 0 21 (nI (i + 1)) → x = nI (σ i) → (v1 1 = v 1 ∧ v1 3 = v 3 ∧ v1 18 = v 18 ∧ v1 0 18 = v 0 18 ∧ v1 0 19 = v 0 19 ∧ v1 0 24 = v 0 24 ∧ v1 23 = v 23 ∧ v1 24 = v 24 ∧ v1 0 21 = nI (i + 1) ∧ (∀ j, j < i + 1 → v1 21 j = nI (σ j)) ∧ FrM v v1) := by
    intro x v1 hv1 hx
    subst hv1
    refine ⟨?_, ?_, ?_, ?_, ?_, ?_, ?_, ?_, ?_, ?_, ?_⟩
    · rw [st_row_ne _ _ _ (by omega), st_row_ne _ _ _ (by omega)]
    · rw [st_row_ne _ _ _ (by omega), st_row_ne _ _ _ (by omega)]
    · rw [st_row_ne _ _ _ (by omega), st_row_ne _ _ _ (by omega)]
    · rw [st_row_eq, upd_ne _ _ (by omega), st_row_ne _ _ _ (by omega)]
    · rw [st_row_eq, upd_ne _ _ (by omega), st_row_ne _ _ _ (by omega)]
    · rw [st_row_eq, upd_ne _ _ (by omega), st_row_ne _ _ _ (by omega)]
    · rw [st_row_ne _ _ _ (by omega), st_row_ne _ _ _ (by omega)]
    · rw [st_row_ne _ _ _ (by omega), st_row_ne _ _ _ (by omega)]
    · rw [st_row_eq, upd_eq]
    · intro j hj
      rw [st_row_ne _ _ _ (by omega), st_row_eq]
      by_cases hji : j = i
      · subst hji; rw [upd_eq, hx]
      · rw [upd_ne _ _ hji]; exact r4 j (by omega)
    · exact (FrM.sr _ (by omega) _ _).tr (FrM.s0 _ (by omega) _)
  generalize hv1 : st (st v 21 i (nI (σ i))) 0 21 (nI (i + 1)) = v1
  obtain ⟨b1, b3, b18, b018, b019, b024, b23, b24, b021, bst, bfr⟩ := base (nI (σ i)) v1 hv1.symm rfl
  have hRN1 : RN w 99 99 H p0 s0 v1 := r1.keep b1 b3 b018 b019
  rcases hL.1 with ⟨x1, x2, x3, x4, x5⟩ | ⟨r, x1, x2, x3, x4, x5⟩ | ⟨h, x1, x2, x3, x4, x5, x6⟩
  · rw [x1, if_pos (show nI 0 = 0 from rfl), nI_1, ← x3, ← x4, ← x5]
    have hB : EB t σ S i = false := by unfold EB; rw [decide_eq_false_iff_not, x1]; omega
    refine ⟨v1, by rw [x4, x5], hRN1, by rw [b18, r2], b021, bst, by rw [b024, r5, cnt_s, hB]; rfl, fun j hj hb => ?_, r7.tr bfr⟩
    have hji : j ≠ i := fun q => by rw [q, hB] at hb; cases hb
    rw [b23, b24]
    exact r6 j (by omega) hb
  · obtain ⟨w1, w2⟩ := sWalk_ent hV x2 x5
    have hin := sWalk_in hV x2 hSi x5
    obtain ⟨-, -, -, hl1, hl9⟩ := hV.2.2.2.2.2.2.1 r x2
    have hK' := CB_le hL.2.1
    have hfar : sFar w r (P i) = some (P (i + 1)) := by
      unfold sWalk at x5
      cases hf : sFar w r (P i) with
      | none => rw [hf] at x5; cases x5
      | some q' =>
        rw [hf] at x5
        simp only [Option.bind_some] at x5
        cases hen : sEnt w q' (H + K (i + 1)) (S i) with
        | none => rw [hen] at x5; cases x5
        | some y => rw [hen] at x5; cases x5; rfl
    rw [if_neg (by rw [x1]; exact nI_ne0 (by omega) (by omega)), if_pos (by rw [x1, show (10 : Int32) = nI 10 from rfl]; exact nI_le (by omega) (by omega)), holdsM hSi ht, bnd_s]
    have e43 : (43 : Int32) + nI (σ i) - 1 = nI (43 + r) := by rw [x1, show (43 : Int32) = nI 43 from rfl, nI_add, show (1 : Int32) = nI 1 from rfl, nI_subN (by omega) (by omega)]; congr 1; omega
    have e1 : nI (σ i) - 1 = nI r := by rw [x1, show (1 : Int32) = nI 1 from rfl, nI_subN (by omega) (by omega)]; congr 1; omega
    rw [e43, e1, grd_t (inb_nI (by omega) (by omega)), cl (by omega), (hM.2.2.2.2.2.1 r x2).2.2, c1, r1.2.2.2.2.1, nI_add, nI_add, ← x4, entersM hV hRN1.1 x2 (by omega) (by omega) hSi, x5, bnd_s, otherEndM hV hRN1.1 x2 (by omega), hfar, bnd_s, r5, grd_t (inb_nI (by omega) (by omega)), grd_t (inb_nI (by omega) (by omega)), cl (by omega)]
    dsimp only
    have fin : ∀ d, (cnt (EB t σ S) (i + 1) = cnt (EB t σ S) i + d) → RS w H t p0 s0 σ K P S V m (i + 1) (st (st (st v1 23 (cnt (EB t σ S) i) (nI (P (i + 1)))) 24 (cnt (EB t σ S) i) (nI (K (i + 1)))) 0 24 (nI (cnt (EB t σ S) i + d))) := by
      intro d hd
      refine ⟨hRN1.keep ?_ ?_ ?_ ?_, ?_, ?_, ?_, ?_, ?_, ?_⟩
      · rw [st_row_ne _ _ _ (by omega), st_row_ne _ _ _ (by omega), st_row_ne _ _ _ (by omega)]
      · rw [st_row_ne _ _ _ (by omega), st_row_ne _ _ _ (by omega), st_row_ne _ _ _ (by omega)]
      · rw [st_row_eq, upd_ne _ _ (by omega), st_row_ne _ _ _ (by omega), st_row_ne _ _ _ (by omega)]
      · rw [st_row_eq, upd_ne _ _ (by omega), st_row_ne _ _ _ (by omega), st_row_ne _ _ _ (by omega)]
      · rw [st_row_ne _ _ _ (by omega), st_row_ne _ _ _ (by omega), st_row_ne _ _ _ (by omega), b18, r2]
      · rw [st_row_eq, upd_ne _ _ (by omega), st_row_ne _ _ _ (by omega), st_row_ne _ _ _ (by omega), b021]
      · intro j hj
        rw [st_row_ne _ _ _ (by omega), st_row_ne _ _ _ (by omega), st_row_ne _ _ _ (by omega)]
        exact bst j hj
      · rw [st_row_eq, upd_eq, hd]
      · intro j hj hb
        rw [st_row_ne _ _ _ (by omega), st_row_ne _ _ _ (by omega), st_row_eq, st_row_ne _ _ _ (by omega), st_row_eq, st_row_ne _ _ _ (by omega)]
        by_cases hji : j = i
        · subst hji; rw [upd_eq, upd_eq]; exact ⟨rfl, rfl⟩
        · have := cnt_lt (B := EB t σ S) (j := j) (i := i) (by omega) hb
          rw [upd_ne _ _ (by omega), upd_ne _ _ (by omega), b23, b24]
          exact r6 j (by omega) hb
      · exact (r7.tr bfr).tr ((FrM.sr _ (by omega) _ _).tr ((FrM.sr _ (by omega) _ _).tr (FrM.s0 _ (by omega) _)))
    by_cases hb : (S i).testBit t = true
    · rw [if_pos hb, if_neg (by decide), show (1 : Int32) = nI 1 from rfl, nI_add]
      refine ⟨_, rfl, fin 1 ?_⟩
      rw [cnt_s, if_pos (by unfold EB; rw [decide_eq_true_eq]; exact ⟨by omega, by omega, hb⟩)]
    · rw [if_neg hb, if_pos rfl, show (0 : Int32) = nI 0 from rfl, nI_add]
      refine ⟨_, rfl, fin 0 ?_⟩
      rw [cnt_s, if_neg (by unfold EB; rw [decide_eq_true_eq]; exact fun q => hb q.2.2)]
  · have hin := sGive_in hV x2 hSi x6
    rw [if_neg (by rw [x1]; exact nI_ne0 (by omega) (by omega)), if_neg (by rw [x1, show (10 : Int32) = nI 10 from rfl]; exact nI_ge (by omega) (by omega))]
    have e11 : nI (σ i) - 11 = nI h := by rw [x1, show (11 : Int32) = nI 11 from rfl, nI_subN (by omega) (by omega)]; congr 1; omega
    rw [e11, givenM hV hRN1.1 x2 (by omega) hSi, x6, bnd_s]
    dsimp only
    have hB : EB t σ S i = false := by unfold EB; rw [decide_eq_false_iff_not, x1]; omega
    refine ⟨v1, by rw [x4, x5], hRN1, by rw [b18, r2], b021, bst, by rw [b024, r5, cnt_s, hB]; rfl, fun j hj hb => ?_, r7.tr bfr⟩
    have hji : j ≠ i := fun q => by rw [q, hB] at hb; cases hb
    rw [b23, b24]
    exact r6 j (by omega) hb
theorem row_L {w : Nat → Nat} (hV : WV w) {H t e p0 s0 n : Nat} {σ K P S : Nat → Nat} {V : Ob} {m : Nat → Int32} (ht : t < 5) (he : e ≤ 60) (hp0 : p0 < 7) (hs0 : s0 < 32) (hm : ∀ k p s, k ≤ e → p < w 0 → s < 32 → (MB m k p s = true ↔ CB w H 99 99 t e k p s)) (hW : Wy w H t e p0 s0 n σ K P S) (hn : n ≤ 100) : ∀ (f i : Nat) (v : Ob), i ≤ n → n - i < f → RS w H t p0 s0 σ K P S V m i v →
    ∃ v', m_X6_layRow_L28 f v (nI t) (nI e) (nI (K i)) (nI (P i)) (nI (S i)) = some v' ∧ RS w H t p0 s0 σ K P S V m n v'
  | 0, i, v, hi, hf, _ => by omega
  | f + 1, i, v, hi, hf, hR => by
    obtain ⟨hPi, hSi⟩ := wy_S hV hW hp0 hs0 hi
    have hK := CB_le (wy_CB hW hi)
    show ∃ v', m_X6_layRow_L28B (m_X6_layRow_L28 f) v (nI t) (nI e) (nI (K i)) (nI (P i)) (nI (S i)) = some v' ∧ _
    unfold m_X6_layRow_L28B
    rw [if_nI (by omega) (by omega), show (0 : Int32) = nI 0 from rfl, if_nI (by omega) (by omega), holdsM hSi ht, bnd_s]
    by_cases hlt : i < n
    · obtain ⟨v1, q1, q2⟩ := row_step hV ht he hp0 hs0 hm hW hn hlt hR (m_X6_layRow_L28 f)
      have hno := hW.2.2.2 i hlt
      have go : ∃ v', m_X6_layRow_j47 (m_X6_layRow_L28 f) v (nI t) (nI e) (nI (K i)) (nI (P i)) (nI (S i)) = some v' ∧ RS w H t p0 s0 σ K P S V m n v' := by
        rw [q1]
        exact row_L hV ht he hp0 hs0 hm hW hn f (i + 1) v1 (by omega) (by omega) q2
      by_cases e1 : K i = e
      · rw [if_pos e1]
        by_cases e2 : P i = 0
        · rw [if_pos e2, if_neg (show ¬ (S i).testBit t = true from fun q => hno ⟨e2, q⟩), if_pos (show (0 : Int32) = nI 0 from rfl)]
          exact go
        · rw [if_neg e2]; exact go
      · rw [if_neg e1]; exact go
    · have : i = n := by omega
      subst this
      obtain ⟨f1, f2, f3⟩ := hW.2.2.1
      rw [if_pos f1, if_pos f2, if_pos f3, if_neg (by decide)]
      exact ⟨v, rfl, hR⟩
theorem rowM {w : Nat → Nat} (hV : WV w) {H t e p0 s0 n : Nat} {σ K P S : Nat → Nat} {V : Ob} (hR : RN w 99 99 H p0 s0 V) (ht : t < 5) (he : e ≤ 60) (hm : ∀ k p s, k ≤ e → p < w 0 → s < 32 → (MB (V 18) k p s = true ↔ CB w H 99 99 t e k p s)) (hW : Wy w H t e p0 s0 n σ K P S) (hn : n ≤ 100) : ∃ v', m_X6_layRow V (nI t) (nI e) = some v' ∧ RS w H t p0 s0 σ K P S V (V 18) n v' := by
  obtain ⟨v', q1, q2⟩ := row_L hV ht he hR.2.2.2.2.2.2.2.1 hR.2.2.2.2.2.2.2.2 hm hW hn (V := V) FU 0 (st (st V 0 21 0) 0 24 0) (by omega) (by unfold FU; omega) (by
    refine ⟨hR.keep ?_ ?_ ?_ ?_, ?_, ?_, fun j hj => by omega, ?_, fun j hj => by omega, (FrM.s0 _ (by omega) _).tr (FrM.s0 _ (by omega) _)⟩
    · rw [st_row_ne _ _ _ (by omega), st_row_ne _ _ _ (by omega)]
    · rw [st_row_ne _ _ _ (by omega), st_row_ne _ _ _ (by omega)]
    · rw [st_row_eq, upd_ne _ _ (by omega), st_row_eq, upd_ne _ _ (by omega)]
    · rw [st_row_eq, upd_ne _ _ (by omega), st_row_eq, upd_ne _ _ (by omega)]
    · rw [st_row_ne _ _ _ (by omega), st_row_ne _ _ _ (by omega)]
    · rw [st_row_eq, upd_ne _ _ (by omega), st_row_eq, upd_eq]; rfl
    · rw [st_row_eq, upd_eq]; rfl)
  rw [hW.1.1, hW.1.2.1, hW.1.2.2] at q1
  refine ⟨v', ?_, q2⟩
  unfold m_X6_layRow
  rw [c0, c2, hR.2.2.2.1, hR.2.2.2.2.2.1]
  have q1' : m_X6_layRow_L28 FU (st (st V 0 21 0) 0 24 0) (nI t) (nI e) 0 (nI p0) (nI s0) = some v' := q1
  rw [q1', bnd_s]
end
