section
/-! PURE: asks and walks spread over the table -/
def ASn (w : Nat → Nat) (nh : Nat) (d : Bool) (p : Nat) : Nat → Nat → Nat → Prop
  | 0, s0, s => s0 = s
  | n + 1, s0, s => ∃ s1 h, ASn w nh d p n s0 s1 ∧ h < w 2 ∧ h ≠ nh ∧ Ar w d h p s1 s
theorem ASn.z {w : Nat → Nat} {nh : Nat} {d : Bool} {p : Nat} (s : Nat) : ASn w nh d p 0 s s := rfl
theorem ASn.c {w : Nat → Nat} {nh : Nat} {d : Bool} {p n s0 s s' h : Nat} (a : ASn w nh d p n s0 s) (b : h < w 2) (c : h ≠ nh) (e : Ar w d h p s s') : ASn w nh d p (n + 1) s0 s' := ⟨s, h, a, b, c, e⟩
theorem ASn_ind {w : Nat → Nat} {nh : Nat} {d : Bool} {p s0 : Nat} {motive : ∀ n s, ASn w nh d p n s0 s → Prop} (z : motive 0 s0 (ASn.z s0)) (c : ∀ {n s s' h : Nat} (a : ASn w nh d p n s0 s) (b : h < w 2) (c : h ≠ nh) (e : Ar w d h p s s'), motive n s a → motive (n + 1) s' (ASn.c a b c e)) : ∀ {n s : Nat} (h : ASn w nh d p n s0 s), motive n s h
  | 0, s, h => by
    have h' : s0 = s := h
    subst h'
    exact z
  | n + 1, s, h => by
    obtain ⟨s1, g, a, b, c', e⟩ := id h
    exact c a b c' e (ASn_ind z c a)
theorem pop_gv : ∀ g, g < 5 → ∀ s, s < 32 → s.testBit g = false → pop (s + 2 ^ g) = pop s + 1 := by decide +kernel
theorem pop_tk : ∀ g, g < 5 → ∀ s, s < 32 → s.testBit g = true → pop (s - 2 ^ g) + 1 = pop s := by decide +kernel
theorem sGive_in {w : Nat → Nat} (hV : WV w) {h p s s' : Nat} (hh : h < w 2) (hs : s < 32) (hg : sGive w h p s = some s') : s' < 32 ∧ pop s' = pop s + 1 ∧ p < w 0 ∧ s < s' := by
  obtain ⟨a1, a2, a3⟩ := hV.2.2.2.2.2.2.2 h hh
  unfold sGive at hg
  split at hg
  · next c =>
    cases hg
    exact ⟨gv_lt s hs _ a2 c.2.2, pop_gv _ a2 s hs c.2.2, by rw [← c.1]; exact a1, Nat.lt_add_of_pos_right (Nat.two_pow_pos _)⟩
  · cases hg
/-- backwards: the set before is small too -/
theorem sGive_back {w : Nat → Nat} {h p s s' : Nat} (hg : sGive w h p s = some s') : s ≤ s' := by
  unfold sGive at hg
  split at hg
  · cases hg; exact Nat.le_add_right _ _
  · cases hg
theorem Ar_lt {w : Nat → Nat} (hV : WV w) {d : Bool} {h p s s' : Nat} (hh : h < w 2) (hs : s < 32) (ha : Ar w d h p s s') : s' < 32 ∧ (if d = true then pop s' = pop s + 1 else pop s = pop s' + 1) := by
  unfold Ar at ha
  cases d with
  | true =>
    rw [if_pos rfl] at ha
    have := sGive_in hV hh hs ha
    exact ⟨this.1, by rw [if_pos rfl]; exact this.2.1⟩
  | false =>
    rw [if_neg (by decide)] at ha
    have h1 : s' < 32 := Nat.lt_of_le_of_lt (sGive_back ha) hs
    exact ⟨h1, by rw [if_neg (by decide)]; exact (sGive_in hV hh h1 ha).2.1⟩
theorem ASn_lt {w : Nat → Nat} (hV : WV w) {nh : Nat} {d : Bool} {p n s0 s : Nat} (h : ASn w nh d p n s0 s) : s0 < 32 → s < 32 ∧ (if d = true then pop s = pop s0 + n else pop s0 = pop s + n) := by
  induction h using ASn_ind with
  | z => intro h0; refine ⟨h0, ?_⟩; split <;> rfl
  | c a hh hn ha ih =>
    intro h0
    obtain ⟨i1, i2⟩ := ih h0
    obtain ⟨j1, j2⟩ := Ar_lt hV hh i1 ha
    refine ⟨j1, ?_⟩
    cases d with
    | true => rw [if_pos rfl] at i2 j2 ⊢; omega
    | false => rw [if_neg (by decide)] at i2 j2 ⊢; omega
theorem ASn_5 {w : Nat → Nat} (hV : WV w) {nh : Nat} {d : Bool} {p n s0 s : Nat} (h : ASn w nh d p n s0 s) (h0 : s0 < 32) : n ≤ 5 := by
  obtain ⟨i1, i2⟩ := ASn_lt hV h h0
  have := pop_le s i1
  have := pop_le s0 h0
  cases d with
  | true => rw [if_pos rfl] at i2; omega
  | false => rw [if_neg (by decide)] at i2; omega
/-- one pass over the hosts -/
theorem pass {w : Nat → Nat} {vW : Ob} (hV : WV w) (hC : WC w vW) (V : Ob) {e nh : Nat} (he : e ≤ 60) (d : Bool) (x4 : Int32) : ∀ (n i : Nat) (f : Nat → Int32) (b : Bool), i ≤ w 2 → w 2 - i < n →
    ∃ (g : Nat → Int32) (b' : Bool), m_X3_spreadAsks_L15 vW n (upR V 3 f) (nI e) (if d = true then 1 else 0) (nbI nh) x4 (if b = true then 1 else 0) (nI i) = some (upR V 3 g, nI e, (if d = true then 1 else 0), nbI nh, x4, (if b' = true then 1 else 0)) ∧ (b' = false → b = false ∧ g = f) ∧ (∀ k p s, p < 7 → s < 32 → k ≠ e → TB g k p s = TB f k p s) ∧ (∀ p s, p < 7 → s < 32 → TB f e p s = true → TB g e p s = true) ∧ (∀ p s, p < 7 → s < 32 → TB g e p s = true → ∃ m s0, s0 < 32 ∧ TB f e p s0 = true ∧ ASn w nh d p m s0 s) ∧ ∀ h p s s', i ≤ h → h < w 2 → h ≠ nh → p < 7 → s < 32 → TB f e p s = true → Ar w d h p s s' → TB g e p s' = true
  | 0, i, f, b, hi, hn => by omega
  | n + 1, i, f, b, hi, hn => by
    have h6 := hV.2.2.1
    show ∃ (g : Nat → Int32) (b' : Bool), m_X3_spreadAsks_L15B vW (m_X3_spreadAsks_L15 vW n) (upR V 3 f) (nI e) (if d = true then 1 else 0) (nbI nh) x4 (if b = true then 1 else 0) (nI i) = _ ∧ _
    unfold m_X3_spreadAsks_L15B m_X3_spreadAsks_j47
    rw [hC.2.2.1]
    by_cases hlt : i < w 2
    · rw [if_neg (nI_ge hlt (by omega)), nI_1]
      by_cases hin : i = nh
      · rw [if_pos ((nbI_eq (by omega)).mpr hin)]
        obtain ⟨g, b', g1, g2, g3, g4, g5, g6⟩ := pass hV hC V he d x4 n (i + 1) f b (by omega) (by omega)
        refine ⟨g, b', g1, g2, g3, g4, g5, fun h p s s' a1 a2 a3 a4 a5 a6 a7 => ?_⟩
        exact g6 h p s s' (by omega) a2 a3 a4 a5 a6 a7
      · rw [if_neg (fun z => hin ((nbI_eq (by omega)).mp z))]
        obtain ⟨f1, b1, q1, q2, q3⟩ := askC hV hC V f he hlt d
        rw [q1, bnd_s]
        have hb : (if (if b1 = true then (1 : Int32) else 0) = 0 then m_X3_spreadAsks_L15 vW n (upR V 3 f1) (nI e) (if d = true then 1 else 0) (nbI nh) x4 (if b = true then 1 else 0) (nI (i + 1)) else m_X3_spreadAsks_L15 vW n (upR V 3 f1) (nI e) (if d = true then 1 else 0) (nbI nh) x4 1 (nI (i + 1))) = m_X3_spreadAsks_L15 vW n (upR V 3 f1) (nI e) (if d = true then 1 else 0) (nbI nh) x4 (if (b || b1) = true then 1 else 0) (nI (i + 1)) := by
          cases b1 with
          | true => rw [if_neg (by decide)]; cases b <;> rfl
          | false => rw [if_pos (by decide)]; cases b <;> rfl
        dsimp only
        rw [hb]
        obtain ⟨g, b', g1, g2, g3, g4, g5, g6⟩ := pass hV hC V he d x4 n (i + 1) f1 (b || b1) (by omega) (by omega)
        refine ⟨g, b', g1, ?_, ?_, ?_, ?_, ?_⟩
        · intro hb'
          obtain ⟨z1, z2⟩ := g2 hb'
          rw [Bool.or_eq_false_iff] at z1
          exact ⟨z1.1, by rw [z2, q2 z1.2]⟩
        · intro k p s hp hs hk
          rw [g3 k p s hp hs hk]
          have := q3 k p s hp hs
          cases hx : TB f k p s with
          | true => exact this.mpr (Or.inl hx)
          | false =>
            cases hy : TB f1 k p s with
            | false => rfl
            | true =>
              rcases this.mp hy with z | z
              · rw [hx] at z; cases z
              · exact absurd z.1 hk
        · intro p s hp hs hz
          exact g4 p s hp hs ((q3 e p s hp hs).mpr (Or.inl hz))
        · intro p s hp hs hz
          obtain ⟨m, s0, z0, z1, z2⟩ := g5 p s hp hs hz
          rcases (q3 e p s0 hp z0).mp z1 with y | ⟨-, s1, y1, y2, y3⟩
          · exact ⟨m, s0, z0, y, z2⟩
          · have base : ASn w nh d p 1 s1 s0 := .c (.z s1) hlt hin y3
            have app : ∀ m s0' s', ASn w nh d p m s0' s' → ASn w nh d p 1 s1 s0' → ∃ m', ASn w nh d p m' s1 s' := by
              intro m s0' s' hA
              induction hA using ASn_ind with
              | z => intro h; exact ⟨1, h⟩
              | c a1 a2 a3 a4 ih => intro h; obtain ⟨m', hm⟩ := ih h; exact ⟨m' + 1, .c hm a2 a3 a4⟩
            obtain ⟨m', hm⟩ := app m s0 s z2 base
            exact ⟨m', s1, y1, y2, hm⟩
        · intro h p s s' a1 a2 a3 a4 a5 a6 a7
          have hs' : s' < 32 := (Ar_lt hV a2 a5 a7).1
          by_cases hih : h = i
          · subst hih
            exact g4 p s' a4 hs' ((q3 e p s' a4 hs').mpr (Or.inr ⟨rfl, s, a5, a6, a7⟩))
          · exact g6 h p s s' (by omega) a2 a3 a4 a5 ((q3 e p s a4 a5).mpr (Or.inl a6)) a7
    · rw [if_pos (nI_le (by omega) (by omega))]
      refine ⟨f, b, rfl, fun z => ⟨z, rfl⟩, fun _ _ _ _ _ _ => rfl, fun _ _ _ _ z => z, fun p s hp hs z => ⟨0, s, hs, z, .z s⟩, fun h p s s' a1 a2 => by omega⟩
theorem ASn_app {w : Nat → Nat} {nh : Nat} {d : Bool} {p m n a b c : Nat} (h1 : ASn w nh d p m a b) (h2 : ASn w nh d p n b c) : ∃ k, ASn w nh d p k a c := by
  induction h2 using ASn_ind with
  | z => exact ⟨m, h1⟩
  | c a1 a2 a3 a4 ih => obtain ⟨k, hk⟩ := ih; exact ⟨k + 1, .c hk a2 a3 a4⟩
/-- the rounds -/
theorem rounds {w : Nat → Nat} {vW : Ob} (hV : WV w) (hC : WC w vW) (V : Ob) {e nh : Nat} (he : e ≤ 60) (d : Bool) (f0 : Nat → Int32) : ∀ (n i : Nat) (f : Nat → Int32), i ≤ 5 → 5 - i < n →
    (∀ k p s, p < 7 → s < 32 → k ≠ e → TB f k p s = TB f0 k p s) → (∀ p s, p < 7 → s < 32 → TB f e p s = true → ∃ m s0, s0 < 32 ∧ TB f0 e p s0 = true ∧ ASn w nh d p m s0 s) → (∀ m p s0 s, m ≤ i → p < 7 → s0 < 32 → TB f0 e p s0 = true → ASn w nh d p m s0 s → TB f e p s = true) →
    ∃ (g : Nat → Int32) (c : Bool), m_X3_spreadAsks_L3 vW n (upR V 3 f) (nI e) (if d = true then 1 else 0) (nbI nh) (nI i) = some (if c = true then Sum.inl (upR V 3 g) else Sum.inr (upR V 3 g)) ∧ (∀ k p s, p < 7 → s < 32 → k ≠ e → TB g k p s = TB f0 k p s) ∧ (∀ p s, p < 7 → s < 32 → TB g e p s = true → ∃ m s0, s0 < 32 ∧ TB f0 e p s0 = true ∧ ASn w nh d p m s0 s) ∧ (∀ m p s0 s, p < 7 → s0 < 32 → TB f0 e p s0 = true → ASn w nh d p m s0 s → TB g e p s = true)
  | 0, i, f, hi, hn, _, _, _ => by omega
  | n + 1, i, f, hi, hn, k1, k2, k3 => by
    show ∃ (g : Nat → Int32) (c : Bool), m_X3_spreadAsks_L3B vW (m_X3_spreadAsks_L3 vW n) (upR V 3 f) (nI e) (if d = true then 1 else 0) (nbI nh) (nI i) = _ ∧ _
    unfold m_X3_spreadAsks_L3B
    by_cases h5 : i = 5
    · subst h5
      rw [if_pos (by decide)]
      refine ⟨f, false, rfl, k1, k2, fun m p s0 s hp h0 ht ha => k3 m p s0 s (ASn_5 hV ha h0) hp h0 ht ha⟩
    · rw [if_neg (by rw [show (5 : Int32) = nI 5 from rfl]; exact nI_ge (by omega) (by omega))]
      have h6 := hV.2.2.1
      obtain ⟨g, b', g1, g2, g3, g4, g5, g6⟩ := pass hV hC V he d (nI i) FU 0 f false (nh := nh) (by omega) (by unfold FU; omega)
      have g1' : m_X3_spreadAsks_L15 vW FU (upR V 3 f) (nI e) (if d = true then 1 else 0) (nbI nh) (nI i) 0 0 = some (upR V 3 g, nI e, (if d = true then 1 else 0), nbI nh, nI i, (if b' = true then 1 else 0)) := g1
      rw [g1', bnd_s]
      dsimp only
      have n1 : ∀ k p s, p < 7 → s < 32 → k ≠ e → TB g k p s = TB f0 k p s := fun k p s hp hs hk => by rw [g3 k p s hp hs hk, k1 k p s hp hs hk]
      have n2 : ∀ p s, p < 7 → s < 32 → TB g e p s = true → ∃ m s0, s0 < 32 ∧ TB f0 e p s0 = true ∧ ASn w nh d p m s0 s := by
        intro p s hp hs hz
        obtain ⟨m, s1, z1, z2, z3⟩ := g5 p s hp hs hz
        obtain ⟨m', s0, y1, y2, y3⟩ := k2 p s1 hp z1 z2
        obtain ⟨k, hk⟩ := ASn_app y3 z3
        exact ⟨k, s0, y1, y2, hk⟩
      cases b' with
      | false =>
        have hgf := (g2 rfl).2
        rw [if_pos (by decide)]
        refine ⟨g, true, rfl, n1, n2, ?_⟩
        intro m p s0 s hp h0 ht ha
        induction ha using ASn_ind with
        | z => exact g4 p _ hp h0 (k3 0 p _ _ (by omega) hp h0 ht (.z _))
        | c a1 a2 a3 a4 ih =>
          have hs := (ASn_lt hV a1 h0).1
          have := ih
          rw [hgf] at this
          exact g6 _ p _ _ (Nat.zero_le _) a2 a3 hp hs this a4
      | true =>
        rw [if_neg (by decide), nI_1]
        refine rounds hV hC V he d f0 n (i + 1) g (by omega) (by omega) n1 n2 ?_
        intro m p s0 s hm hp h0 ht ha
        cases m with
        | zero =>
          have ha' : s0 = s := ha
          subst ha'
          exact g4 p _ hp h0 (k3 0 p _ _ (by omega) hp h0 ht (.z _))
        | succ m =>
          obtain ⟨s1, h1, a1, a2, a3, a4⟩ := ha
          have hs := (ASn_lt hV a1 h0).1
          exact g6 _ p _ _ (Nat.zero_le _) a2 a3 hp hs (k3 _ p s0 _ (by omega) hp h0 ht a1) a4
theorem spreadA {w : Nat → Nat} {vW : Ob} (hV : WV w) (hC : WC w vW) (V : Ob) {e nh : Nat} (he : e ≤ 60) (d : Bool) (f : Nat → Int32) : ∃ g, m_X3_spreadAsks (upR V 3 f) vW (nI e) (if d = true then 1 else 0) (nbI nh) = some (upR V 3 g) ∧ (∀ k p s, p < 7 → s < 32 → k ≠ e → TB g k p s = TB f k p s) ∧ (∀ p s, p < 7 → s < 32 → (TB g e p s = true ↔ ∃ m s0, s0 < 32 ∧ TB f e p s0 = true ∧ ASn w nh d p m s0 s)) := by
  obtain ⟨g, c, g1, g2, g3, g4⟩ := rounds hV hC V he d f FU 0 f (nh := nh) (by omega) (by unfold FU; omega) (fun _ _ _ _ _ _ => rfl) (fun p s hp hs z => ⟨0, s, hs, z, .z s⟩) (fun m p s0 s hm hp h0 ht ha => by
    have : m = 0 := by omega
    subst this
    have ha' : s0 = s := ha
    subst ha'
    exact ht)
  refine ⟨g, ?_, g2, fun p s hp hs => ⟨g3 p s hp hs, fun ⟨m, s0, z1, z2, z3⟩ => g4 m p s0 s hp z1 z2 z3⟩⟩
  unfold m_X3_spreadAsks
  have g1' : m_X3_spreadAsks_L3 vW FU (upR V 3 f) (nI e) (if d = true then 1 else 0) (nbI nh) 0 = _ := g1
  rw [g1', bnd_s]
  cases c with
  | true => rw [if_pos rfl, sm_l]
  | false => rw [if_neg (by decide), sm_r]
end
