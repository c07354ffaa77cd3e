/-! PURE: the tale, by both -/
theorem IFl.bnd {vM : Ob} {c : Option (Int32 × Ob × Ob)} {m : Option (Int32 × Ob)} (h : IFl vM c m) : IFl vM (c.bind fun o => grd (bz o.1) (some (o.1, o.2.1, o.2.2))) (m.bind fun o => grd (bz o.1) (some (o.1, o.2))) := by
  obtain ⟨vR', vD', vM', b, h1, h2, h3⟩ := h
  exact ⟨vR', vD', vM', b, by rw [h1, bnd_s]; exact grd_t bz0 _, by rw [h2, bnd_s]; exact grd_t bz0 _, h3⟩
theorem IFl.bndm {vM : Ob} {c : Option (Int32 × Ob × Ob)} {m : Option (Int32 × Ob)} (h : IFl vM c m) : IFl vM c (m.bind fun o => grd (bz o.1) (some (o.1, o.2))) := by
  obtain ⟨vR', vD', vM', b, h1, h2, h3⟩ := h
  exact ⟨vR', vD', vM', b, h1, by rw [h2, bnd_s]; exact grd_t bz0 _, h3⟩
theorem IOk.bndm {x : Nat → Nat} {n i : Nat} {vM : Ob} {c : Option (Int32 × Ob × Ob)} {m : Option (Int32 × Ob)} (h : IOk x n i vM c m) : IOk x n i vM c (m.bind fun o => grd (bz o.1) (some (o.1, o.2))) := by
  obtain ⟨vR', vD', vM', w', e, f', h1, h2, h3⟩ := h
  refine ⟨vR', vD', vM', w', e, f', h1, fun r V hr hV => ?_, h3⟩
  rw [h2 r V hr hV, bnd_s]
  rcases hr with rfl | rfl
  · exact grd_t bz0 _
  · exact grd_t bz1 _
theorem IOk.bnd {x : Nat → Nat} {n i : Nat} {vM : Ob} {c : Option (Int32 × Ob × Ob)} {m : Option (Int32 × Ob)} (h : IOk x n i vM c m) : IOk x n i vM (c.bind fun o => grd (bz o.1) (some (o.1, o.2.1, o.2.2))) (m.bind fun o => grd (bz o.1) (some (o.1, o.2))) := by
  obtain ⟨vR', vD', vM', w', e, f', h1, h2, h3⟩ := IOk.bndm h
  exact ⟨vR', vD', vM', w', e, f', by rw [h1, bnd_s]; exact grd_t bz1 _, h2, h3⟩
theorem item {x : Nat → Nat} {n i f b v : Nat} {w : Nat → Nat} {vt : Nat → Int32} {vR vD vM : Ob} (hV : TV n x) (hT : TR n x vt) (h : RLx x n i f w vR vD vM) (hc : cost w + 1 ≤ i) (hb : vR 0 4 = nI b) (hb' : vM 0 13 = nI b) (hb2 : b ≤ 200) (k5 : vR 0 5 = 1) (k6 : vR 0 6 = nI v) (k14 : vM 0 14 = 1) (k15 : vM 0 15 = nI v) (hv : v < 256) : IFl vM (m_X1_readsItem vR vD vt) (m_X6_takesItem vM) ∨ IOk x n i vM (m_X1_readsItem vR vD vt) (m_X6_takesItem vM) := by
  unfold m_X1_readsItem m_X6_takesItem m_X6_takesItem_j16
  rw [if_pos k5, if_pos k14, k6, k15, show (103 : Int32) = nI 103 from rfl, show (104 : Int32) = nI 104 from rfl, show (108 : Int32) = nI 108 from rfl, show (111 : Int32) = nI 111 from rfl, show (112 : Int32) = nI 112 from rfl, show (114 : Int32) = nI 114 from rfl]
  by_cases h1 : v = 103
  · rw [h1, if_pos rfl, if_pos rfl]
    exact (iGate hV hT h hc).imp IFl.bnd IOk.bnd
  have n1 : ¬ nI v = nI 103 := by rw [nI_eq (by omega) (by omega)]; exact h1
  rw [if_neg n1, if_neg n1]
  by_cases h2 : v = 104
  · rw [h2, if_pos rfl, if_pos rfl]
    exact (iHost hV hT h hc hb hb' hb2).imp IFl.bnd IOk.bnd
  have n2 : ¬ nI v = nI 104 := by rw [nI_eq (by omega) (by omega)]; exact h2
  rw [if_neg n2, if_neg n2]
  by_cases h3 : v = 108
  · rw [h3, if_pos rfl, if_pos rfl]
    exact (iLion hV hT h hc).imp IFl.bnd IOk.bnd
  have n3 : ¬ nI v = nI 108 := by rw [nI_eq (by omega) (by omega)]; exact h3
  rw [if_neg n3, if_neg n3]
  by_cases h4 : v = 111
  · rw [h4, if_pos rfl, if_pos rfl]
    exact (iOff hV hT h hc hb hb' hb2).imp IFl.bnd IOk.bnd
  have n4 : ¬ nI v = nI 111 := by rw [nI_eq (by omega) (by omega)]; exact h4
  rw [if_neg n4, if_neg n4]
  by_cases h5 : v = 112
  · rw [h5, if_pos rfl, if_pos rfl]
    exact (iPlace h hc hb hb' hb2).imp IFl.bndm IOk.bndm
  have n5 : ¬ nI v = nI 112 := by rw [nI_eq (by omega) (by omega)]; exact h5
  rw [if_neg n5, if_neg n5]
  by_cases h6 : v = 114
  · rw [h6, if_pos rfl, if_pos rfl]
    exact (iRoad hV hT h hc hb hb' hb2).imp IFl.bnd IOk.bnd
  have n6 : ¬ nI v = nI 114 := by rw [nI_eq (by omega) (by omega)]; exact h6
  rw [if_neg n6, if_neg n6]
  left
  exact ⟨vR, vD, vM, b, rfl, rfl, hb, hb', hb2, FM.refl _⟩
/-- no item begins so -/
theorem noItem {k : Nat} {vt : Nat → Int32} {vR vD vM : Ob} (k5 : vR 0 5 = nI k) (hk : k ≠ 1) (hk' : k < 5) (h14 : ¬ vM 0 14 = 1 ∨ (vM 0 14 = 1 ∧ vM 0 15 = 0)) : m_X1_readsItem vR vD vt = some (0, vR, vD) ∧ m_X6_takesItem vM = some (0, vM) := by
  unfold m_X1_readsItem m_X6_takesItem
  rw [if_neg (show ¬ vR 0 5 = 1 by rw [k5, show (1 : Int32) = nI 1 from rfl, nI_eq (by omega) (by omega)]; exact hk)]
  refine ⟨rfl, ?_⟩
  have hj : m_X6_takesItem_j16 vM 0 = some (0, vM) := by
    unfold m_X6_takesItem_j16
    rw [if_neg (by decide), if_neg (by decide), if_neg (by decide), if_neg (by decide), if_neg (by decide), if_neg (by decide)]
  rcases h14 with h | ⟨h, h2⟩
  · rw [if_neg h, hj]
  · rw [if_pos h, h2, hj]
theorem flt {b : Nat} (hb : b ≤ 200) : ¬ (0 : Int32) ≤ -10 - nI b := by
  rw [Int32.le_iff_toInt_le, Int32.toInt_sub, nI_toInt (by omega), show (-10 : Int32).toInt = -10 by decide, ti0, Int.bmod_eq_of_le (by omega) (by omega)]
  omega
theorem talesT {x : Nat → Nat} {n : Nat} {vt : Nat → Int32} (hV : TV n x) (hT : TR n x vt) : ∀ (f i fo m : Nat) (w : Nat → Nat) (vR vD vM : Ob), n - i < f → m ≤ i → RLx x n i fo w vR vD vM → cost w ≤ i →
    (∃ (r : Int32) (vR' vD' vM' : Ob), m_X1_readTale_L32 vt f vR vD (nI m) = some (.inl (r, vR', vD')) ∧ ¬ (0 : Int32) ≤ r ∧ ((m_X6_next vM).bind fun o => m_X6_tale_L23 f o (nI m)) = some (.inl (r, vM')) ∧ FM vM vM') ∨
    (∃ (m' : Nat) (vR' vD' vM' : Ob) (w' : Nat → Nat), m_X1_readTale_L32 vt f vR vD (nI m) = some (.inl (nI m', vR', vD')) ∧ m' ≤ 200 ∧ ((m_X6_next vM).bind fun o => m_X6_tale_L23 f o (nI m)) = some (.inr (vM', nI m')) ∧ FM vM vM' ∧ WV w' ∧ WC w' vD' ∧ RW w' (vM' 2) ∧ cost w' ≤ n)
  | 0, i, fo, m, w, vR, vD, vM, hf, hm, hR, hc => by omega
  | f + 1, i, fo, m, w, vR, vD, vM, hf, hm, hR, hc => by
    have h200 := hV.1
    obtain ⟨⟨p1, p2, p3, p4, p5, p6⟩, hfo, h7, h16, hW, hC, hRW⟩ := hR
    obtain ⟨vR', vM', b, e, k, v, a1, a2, ⟨r1, r2, r3, r4, r5⟩, a4, a5, ⟨m1, m2, m3⟩, ⟨i1, i2, i3⟩, hk⟩ := tok hV hT p5 p6 p1 p2 p3 p4
    have tr : TR n x (vM' 6) := by rw [a4.1 6 (by omega) (by omega)]; exact p5
    have hL : m_X1_readTale_L32 vt (f + 1) vR vD (nI m) = m_X1_readTale_L32B vt (m_X1_readTale_L32 vt f) vR vD (nI m) := rfl
    have hM : ((m_X6_next vM).bind fun o => m_X6_tale_L23 (f + 1) o (nI m)) = m_X6_tale_L23B (m_X6_tale_L23 f) vM' (nI m) := by rw [a2, bnd_s]; rfl
    rw [hL, hM]
    unfold m_X1_readTale_L32B m_X6_tale_L23B
    rw [if_neg (show ¬ (200 : Int32) < nI m by rw [show (200 : Int32) = nI 200 from rfl]; exact nI_nlt (by omega) (by omega)), a1, bnd_s, r4]
    -- both stop at byte b'
    have bad : ∀ (q1 q2 : Ob) (d : Ob) (b' : Nat), m_X1_readsItem vR' vD vt = some (0, q1, d) → m_X6_takesItem vM' = some (0, q2) → q1 0 4 = nI b' → q2 0 13 = nI b' → b' ≤ 200 → FM vM' q2 → k ≠ 0 → k < 5 → ¬ vM' 0 14 = 0 → 
        (∃ (r : Int32) (vR'_1 vD' vM'_1 : Ob), (if nI k = 0 then some (.inl (nI m, vR', vD)) else (m_X1_readsItem vR' vD vt).bind fun o53 => if o53.1 = 0 then some (.inl (-10 - o53.2.1 0 4, o53.2.1, o53.2.2)) else (m_X1_readsStop o53.2.1 vt).bind fun o60 => if o60.1 = 0 then some (.inl (-10 - o60.2 0 4, o60.2, o53.2.2)) else m_X1_readTale_L32 vt f o60.2 o53.2.2 (nI m + 1)) = (some (.inl (r, vR'_1, vD')) : Option ((Int32 × Ob × Ob) ⊕ (Ob × Ob))) ∧ ¬ (0 : Int32) ≤ r ∧ (if vM' 0 14 = 0 then some (.inr (vM', nI m)) else (m_X6_takesItem vM').bind fun o31 => if o31.1 = 0 then some (.inl (-10 - o31.2 0 13, o31.2)) else (m_X6_next o31.2).bind fun o49 => m_X6_tale_L23 f o49 (nI m + 1)) = (some (.inl (r, vM'_1)) : Option ((Int32 × Ob) ⊕ (Ob × Int32))) ∧ FM vM vM'_1) := by
      intro q1 q2 d b' z1 z2 z3 z4 z5 z6 z7 z8 z9
      rw [if_neg (show ¬ nI k = 0 from nI_ne0 (by omega) (by omega)), if_neg z9, z1, z2, bnd_s, bnd_s, if_pos rfl, if_pos rfl]
      refine ⟨_, _, _, _, rfl, ?_, ?_, a4.trans z6⟩
      · show ¬ (0 : Int32) ≤ -10 - q1 0 4
        rw [z3]; exact flt z5
      · show some (Sum.inl (-10 - q2 0 13, q2)) = some (Sum.inl (-10 - q1 0 4, q2))
        rw [z3, z4]
    rcases hk with ⟨rfl, h14, hbn⟩ | ⟨rfl, h14, ha, hu, hv, hv0, hbe⟩ | ⟨rfl, h14, -⟩ | ⟨rfl, h14, -⟩ | ⟨rfl, h14, -⟩
    · right
      rw [if_pos (show nI 0 = 0 from rfl), if_pos h14]
      exact ⟨m, vR', vD, vM', w, rfl, by omega, rfl, a4, hW, hC, by rw [a5]; exact hRW, by omega⟩
    · have hRL : RLx x n e fo w vR' vD vM' := ⟨⟨r1, r2, by rw [a4.2 6 (by omega)]; exact p3, m2, tr, i3⟩, hfo, r5.trans h7, m1.trans h16, hW, hC, by rw [a5]; exact hRW⟩
      rcases item hV hT hRL (by omega) r3 m3 (by omega) r4 ha h14 hu hv with hF | hO
      · obtain ⟨q1, d, q2, b', z1, z2, z3, z4, z5, z6⟩ := hF
        exact Or.inl (bad q1 q2 d b' z1 z2 z3 z4 z5 z6 (by omega) (by omega) (by rw [h14]; decide))
      · obtain ⟨q1, d, q2, w', e', f', z1, z2, z3, z4, z5, z6⟩ := hO
        rcases rStop hV hT z3.1 with ⟨s1, s2, b', y1, y2, y3, y4, y5, y6⟩ | ⟨s1, s2, e2, y1, y2, y3, y4, y5, y6, y7, y8⟩
        · left
          rw [if_neg (show ¬ nI 1 = 0 by decide), if_neg (show ¬ vM' 0 14 = 0 by rw [h14]; decide), z1, z2 0 s2 (Or.inl rfl) y2, bnd_s, bnd_s, if1, if_pos rfl, y1, bnd_s, if_pos rfl]
          refine ⟨_, _, _, _, rfl, ?_, ?_, (a4.trans z4).trans y6⟩
          · show ¬ (0 : Int32) ≤ -10 - s1 0 4
            rw [y3]; exact flt y5
          · show some (Sum.inl (-10 - s2 0 13, s2)) = some (Sum.inl (-10 - s1 0 4, s2))
            rw [y3, y4]
        · have hRL2 : RLx x n e2 f' w' s1 d s2 := ⟨y3, z3.2.1, y5.trans z3.2.2.1, y6.trans z3.2.2.2.1, z3.2.2.2.2.1, z3.2.2.2.2.2.1, by rw [y4]; exact z3.2.2.2.2.2.2⟩
          have hle := y3.2.2.2.2.2
          have ih := talesT hV hT f e2 f' (m + 1) w' s1 d s2 (by omega) (by omega) hRL2 (by omega)
          rw [if_neg (show ¬ nI 1 = 0 by decide), if_neg (show ¬ vM' 0 14 = 0 by rw [h14]; decide), z1, z2 1 s2 (Or.inr rfl) y2, bnd_s, bnd_s, if1, if1, y1, bnd_s, if1, nI_1]
          rcases ih with ⟨r, x1, x2, x3, g1, g2, g3, g4⟩ | ⟨m', x1, x2, x3, w2, g1, g2, g3, g4, g5⟩
          · exact Or.inl ⟨r, x1, x2, x3, g1, g2, g3, ((a4.trans z4).trans y7).trans g4⟩
          · exact Or.inr ⟨m', x1, x2, x3, w2, g1, g2, g3, ((a4.trans z4).trans y7).trans g4, g5⟩
    · obtain ⟨z1, z2⟩ := noItem (vt := vt) (vD := vD) r4 (by omega) (by omega) (Or.inl (show ¬ vM' 0 14 = 1 by rw [h14]; decide))
      exact Or.inl (bad vR' vM' vD b z1 z2 r3 m3 (by omega) (FM.refl _) (by omega) (by omega) (by rw [h14]; decide))
    · obtain ⟨z1, z2⟩ := noItem (vt := vt) (vD := vD) r4 (by omega) (by omega) (Or.inl (show ¬ vM' 0 14 = 1 by rw [h14]; decide))
      exact Or.inl (bad vR' vM' vD b z1 z2 r3 m3 (by omega) (FM.refl _) (by omega) (by omega) (by rw [h14]; decide))
    · obtain ⟨z1, z2⟩ := noItem (vt := vt) (vD := vD) r4 (by omega) (by omega) (h14.imp (fun z => by rw [z]; decide) id)
      refine Or.inl (bad vR' vM' vD b z1 z2 r3 m3 (by omega) (FM.refl _) (by omega) (by omega) ?_)
      rcases h14 with z | z
      · rw [z]; decide
      · rw [z.1]; decide
/-! the empty tale -/
def w0 : Nat → Nat := fun j => if 4 ≤ j ∧ j < 11 then 9 else if 11 ≤ j ∧ j < 25 then 24 else 0
theorem clean2 : ∀ (f k : Nat) (vt : Nat → Int32), k ≤ 70 → 70 - k < f → (∀ j, j < k → vt j = 0) → ∃ t, m_X6_clean_L2 f vt (nI k) = some t ∧ ∀ j, j < 70 → t j = 0
  | 0, k, vt, hk, hf, h => by omega
  | f + 1, k, vt, hk, hf, h => by
    show ∃ t, m_X6_clean_L2B (m_X6_clean_L2 f) vt (nI k) = some t ∧ _
    unfold m_X6_clean_L2B
    rw [show (70 : Int32) = nI 70 from rfl]
    by_cases h70 : k = 70
    · subst h70
      rw [if_pos (nI_le (by omega) (by omega))]
      exact ⟨vt, rfl, h⟩
    · rw [if_neg (nI_ge (by omega) (by omega)), grd_t (inb_nI (by omega) (by omega)), cl (by omega), nI_1]
      refine clean2 f (k + 1) _ (by omega) (by omega) (fun j hj => ?_)
      by_cases hjk : j = k
      · subst hjk; rw [upd_eq]
      · rw [upd_ne _ _ hjk]; exact h j (by omega)
theorem clean20 : ∀ (f k : Nat) (vt : Nat → Int32), k ≤ 7 → 7 - k < f → (∀ j, j < 4 → vt j = 0) → (∀ p, p < k → vt (4 + p) = 9 ∧ vt (11 + p) = -9 ∧ vt (18 + p) = 24) → ∃ t, m_X6_clean_L20 f vt (nI k) = some t ∧ (∀ j, j < 4 → t j = 0) ∧ ∀ p, p < 7 → t (4 + p) = 9 ∧ t (11 + p) = -9 ∧ t (18 + p) = 24
  | 0, k, vt, hk, hf, h, h2 => by omega
  | f + 1, k, vt, hk, hf, h, h2 => by
    show ∃ t, m_X6_clean_L20B (m_X6_clean_L20 f) vt (nI k) = some t ∧ _
    unfold m_X6_clean_L20B
    rw [show (7 : Int32) = nI 7 from rfl]
    by_cases h70 : k = 7
    · subst h70
      rw [if_pos (nI_le (by omega) (by omega))]
      exact ⟨vt, rfl, h, h2⟩
    · rw [if_neg (nI_ge (by omega) (by omega)), show (4 : Int32) + nI k = nI (4 + k) from nI_add 4 k, show (11 : Int32) + nI k = nI (11 + k) from nI_add 11 k, show (18 : Int32) + nI k = nI (18 + k) from nI_add 18 k, grd_t (inb_nI (by omega) (by omega)), grd_t (inb_nI (by omega) (by omega)), grd_t (inb_nI (by omega) (by omega)), cl (by omega), cl (by omega), cl (by omega), nI_1]
      refine clean20 f (k + 1) _ (by omega) (by omega) (fun j hj => ?_) (fun p hp => ?_)
      · rw [upd_ne _ _ (by omega), upd_ne _ _ (by omega), upd_ne _ _ (by omega)]; exact h j hj
      · by_cases hjk : p = k
        · subst hjk
          rw [upd_ne _ _ (by omega), upd_ne _ _ (by omega), upd_eq, upd_ne _ _ (by omega), upd_eq, upd_eq]
          exact ⟨rfl, rfl, rfl⟩
        · rw [upd_ne _ _ (by omega), upd_ne _ _ (by omega), upd_ne _ _ (by omega), upd_ne _ _ (by omega), upd_ne _ _ (by omega), upd_ne _ _ (by omega), upd_ne _ _ (by omega), upd_ne _ _ (by omega), upd_ne _ _ (by omega)]
          exact h2 p (by omega)
theorem cleanT (vt : Nat → Int32) : ∃ t, m_X6_clean vt = some t ∧ RW w0 t := by
  obtain ⟨t1, h1, h2⟩ := clean2 FU 0 vt (by omega) (by unfold FU; omega) (fun j hj => by omega)
  obtain ⟨t2, h3, h4, h5⟩ := clean20 FU 0 t1 (by omega) (by unfold FU; omega) (fun j hj => h2 j (by omega)) (fun p hp => by omega)
  unfold m_X6_clean
  rw [show (0 : Int32) = nI 0 from rfl, h1, bnd_s, h3, bnd_s]
  refine ⟨t2, rfl, h4 0 (by omega), h4 1 (by omega), h4 2 (by omega), h4 3 (by omega), fun p hp => ?_, fun r hr => absurd hr (by show ¬ r < w0 1; simp [w0]), fun q hq => absurd hq (by show ¬ q < w0 2; simp [w0]), fun p hp _ => ?_⟩
  · obtain ⟨y1, y2, y3⟩ := h5 p hp
    rw [y1, y2, y3, show w0 (4 + p) = 9 by unfold w0; rw [if_pos (by omega)], show w0 (11 + p) = 24 by unfold w0; rw [if_neg (by omega), if_pos (by omega)], show w0 (18 + p) = 24 by unfold w0; rw [if_neg (by omega), if_pos (by omega)]]
    exact ⟨rfl, gI_24.symm, rfl⟩
  · rw [show w0 (4 + p) = 9 by unfold w0; rw [if_pos (by omega)], show w0 (11 + p) = 24 by unfold w0; rw [if_neg (by omega), if_pos (by omega)], show w0 (18 + p) = 24 by unfold w0; rw [if_neg (by omega), if_pos (by omega)]]
    exact ⟨rfl, rfl, rfl⟩
theorem w0V : WV w0 := ⟨by decide, by decide, by decide, by decide, fun p hp => absurd hp (by show ¬ p < w0 0; simp [w0]), fun h => absurd h (by decide), fun r hr => absurd hr (by show ¬ r < w0 1; simp [w0]), fun q hq => absurd hq (by show ¬ q < w0 2; simp [w0])⟩
theorem w0C {v : Ob} (h0 : v 0 0 = 0) (h1 : v 0 1 = 0) (h2 : v 0 2 = 0) (h3 : v 0 3 = 0) : WC w0 v := ⟨h0, h1, h2, h3, fun p hp => absurd hp (by show ¬ p < w0 0; simp [w0]), fun r hr => absurd hr (by show ¬ r < w0 1; simp [w0]), fun q hq => absurd hq (by show ¬ q < w0 2; simp [w0])⟩
theorem RW.wm {w : Nat → Nat} {t : Nat → Int32} (hV : WV w) (h : RW w t) : WM w t := ⟨h.1, h.2.1, h.2.2.1, h.2.2.2.1, fun p hp => h.2.2.2.2.1 p (by have := hV.1; omega), h.2.2.2.2.2.1, h.2.2.2.2.2.2.1⟩
theorem WM.cong {w : Nat → Nat} {t t' : Nat → Int32} (hV : WV w) (h : WM w t) (e : ∀ j, j < 70 → t' j = t j) : WM w t' := by
  obtain ⟨v0, v1, v2, v3, -⟩ := hV
  obtain ⟨h0, h1, h2, h3, h4, h5, h6⟩ := h
  refine ⟨by rw [e 0 (by omega)]; exact h0, by rw [e 1 (by omega)]; exact h1, by rw [e 2 (by omega)]; exact h2, by rw [e 3 (by omega)]; exact h3, fun p hp => ?_, fun r hr => ?_, fun q hq => ?_⟩
  · rw [e (4 + p) (by omega), e (11 + p) (by omega), e (18 + p) (by omega)]; exact h4 p hp
  · rw [e (25 + r) (by omega), e (34 + r) (by omega), e (43 + r) (by omega)]; exact h5 r hr
  · rw [e (52 + q) (by omega), e (58 + q) (by omega), e (64 + q) (by omega)]; exact h6 q hq
theorem tale57 (c : Int32) : ∀ (f k : Nat) (vM : Ob), k ≤ 70 → 70 - k < f → (∀ j, j < k → vM 1 j = vM 2 j) → ∃ g, m_X6_tale_L57 f vM c (nI k) = some (upR vM 1 g, c) ∧ ∀ j, j < 70 → g j = vM 2 j
  | 0, k, vM, hk, hf, h => by omega
  | f + 1, k, vM, hk, hf, h => by
    show ∃ g, m_X6_tale_L57B (m_X6_tale_L57 f) vM c (nI k) = some (upR vM 1 g, c) ∧ _
    unfold m_X6_tale_L57B
    rw [show (70 : Int32) = nI 70 from rfl]
    by_cases h70 : k = 70
    · subst h70
      rw [if_pos (nI_le (by omega) (by omega))]
      exact ⟨vM 1, by rw [upR_self], h⟩
    · rw [if_neg (nI_ge (by omega) (by omega)), grd_t (inb_nI (by omega) (by omega)), grd_t (inb_nI (by omega) (by omega)), cl (by omega), nI_1]
      obtain ⟨g, g1, g2⟩ := tale57 c f (k + 1) (st vM 1 k (vM 2 k)) (by omega) (by omega) (fun j hj => by
        show upd (vM 1) k (vM 2 k) j = vM 2 j
        by_cases hjk : j = k
        · subst hjk; rw [upd_eq]
        · rw [upd_ne _ _ hjk]; exact h j (by omega))
      exact ⟨g, by rw [g1, st_as, upR_upR], g2⟩
theorem tale83 (c : Int32) : ∀ (f k : Nat) (vM : Ob), k ≤ 40 → 40 - k < f → (∀ j, j < k → vM 3 j = 0) → ∃ g, m_X6_tale_L83 f vM c (nI k) = some (upR vM 3 g, c) ∧ ∀ j, j < 40 → g j = 0
  | 0, k, vM, hk, hf, h => by omega
  | f + 1, k, vM, hk, hf, h => by
    show ∃ g, m_X6_tale_L83B (m_X6_tale_L83 f) vM c (nI k) = some (upR vM 3 g, c) ∧ _
    unfold m_X6_tale_L83B
    rw [show (40 : Int32) = nI 40 from rfl]
    by_cases h70 : k = 40
    · subst h70
      rw [if_pos (nI_le (by omega) (by omega))]
      exact ⟨vM 3, by rw [upR_self], h⟩
    · rw [if_neg (nI_ge (by omega) (by omega)), grd_t (inb_nI (by omega) (by omega)), cl (by omega), nI_1]
      obtain ⟨g, g1, g2⟩ := tale83 c f (k + 1) (st vM 3 k 0) (by omega) (by omega) (fun j hj => by
        show upd (vM 3) k 0 j = 0
        by_cases hjk : j = k
        · subst hjk; rw [upd_eq]
        · rw [upd_ne _ _ hjk]; exact h j (by omega))
      exact ⟨g, by rw [g1, st_as, upR_upR], g2⟩
theorem becomeW {w : Nat → Nat} {vW vD vW' : Ob} (hV : WV w) (hC : WC w vD) (h : m_X4_becomeLike vW vD = some vW') : WC w vW' := by
  obtain ⟨v0, v1, v2, v3, -⟩ := hV
  obtain ⟨h0, h1, h2, h3, h4, h5, h6⟩ := hC
  unfold m_X4_becomeLike at h
  injection h with h
  subst h
  have cp : ∀ (f g : Nat → Int32) (c j : Nat), j < c → va_cpy f g 0 0 c j = f j := fun f g c j hj => (pk_cpy_in (by omega) (by omega)).trans (by rw [show 0 + (j - 0) = j by omega])
  refine ⟨h0, h1, h2, h3, fun p hp => ?_, fun r hr => ?_, fun q hq => ?_⟩
  · obtain ⟨y1, y2, y3⟩ := h4 p hp
    exact ⟨(cp _ _ 7 p (by omega)).trans y1, (cp _ _ 7 p (by omega)).trans y2, (cp _ _ 7 p (by omega)).trans y3⟩
  · obtain ⟨y1, y2, y3⟩ := h5 r hr
    exact ⟨(cp _ _ 9 r (by omega)).trans y1, (cp _ _ 9 r (by omega)).trans y2, (cp _ _ 9 r (by omega)).trans y3⟩
  · obtain ⟨y1, y2, y3⟩ := h6 q hq
    exact ⟨(cp _ _ 6 q (by omega)).trans y1, (cp _ _ 6 q (by omega)).trans y2, (cp _ _ 6 q (by omega)).trans y3⟩
theorem ls_2 (K : (Nat → Nat) → Ob → Prop) (hK : ∀ w v, K w (st v 0 7 (-9))) : LS2 (Inv K) := by
  intro j vX vR vY vC vW vD vS vI vJ vT vM uT hj hI
  obtain ⟨⟨n, x, hTV, hnj, e1, e2, r1, r2⟩, hM, hC, ht⟩ := id hI
  have hn := hTV.1
  obtain ⟨t, ht1, ht2⟩ := cleanT (vM 2)
  have hmin : (if (200 : Int32) < nI n then (200 : Int32) else nI n) = nI n := if_neg (by rw [show (200 : Int32) = nI 200 from rfl]; exact nI_nlt (by omega) (by omega))
  have fr0 : FM vM (st (st (upR vM 2 t) 0 12 0) 0 16 0) := (show FM vM (upR vM 2 t) from ⟨fun r _ h => upR_ne _ _ h, fun c hc => by rw [upR_ne _ _ (by omega)]⟩).trans ((FM.st0 _ _ (by omega)).trans (FM.st0 _ _ (by omega)))
  have hRL : RLx x n 0 0 w0 (st (st (st vR 0 2 (nI n)) 0 3 0) 0 7 0) (st (st (st (st vD 0 0 0) 0 1 0) 0 2 0) 0 3 0) (st (st (upR vM 2 t) 0 12 0) 0 16 0) := ⟨⟨rfl, rfl, e2, rfl, r2, by omega⟩, by omega, rfl, rfl, w0V, w0C rfl rfl rfl rfl, ht2⟩
  unfold m_X5_tale m_X6_tale m_X1_readTale m_X4_forgetAll
  rw [e1, hmin, ht1, bnd_s, bnd_s]
  have main := talesT hTV r1 FU 0 0 0 w0 _ _ _ (by unfold FU; omega) (by omega) hRL (by decide)
  rcases main with ⟨r, vR', vD', vM', g1, g2, g3, g4⟩ | ⟨m', vR', vD', vM', w', g1, g2, g3, g4, g5, g6, g7, g8⟩
  · rw [show (0 : Int32) = nI 0 from rfl] at g1 ⊢
    rw [g1, bnd_s]
    have e3 : ((m_X6_next (st (st (upR vM 2 t) 0 12 (nI 0)) 0 16 (nI 0))).bind fun o20 => (m_X6_tale_L23 FU o20 (nI 0)).bind fun o23_1 => Sum.elim (fun r => some r) (fun o23_1x => ((m_X6_tale_L57  FU o23_1x.1 o23_1x.2 (nI 0)).bind fun o57_2 => ((m_X6_tale_L83  FU o57_2.1 o57_2.2 (nI 0)).bind fun o83_3 => some (o83_3.2, (st (st (st (st (st o83_3.1 0 6 (nI 0)) 0 8 (nI 0)) 0 10 (nI 0)) 5 (Int32.toNatClampNeg (nI 0)) (vp_nar .boolean (nI 0))) 5 (Int32.toNatClampNeg (1 : Int32)) (vp_nar .boolean (nI 0))))))) o23_1) = some (r, vM') := by
      rw [← Option.bind_assoc]
      rw [show ((m_X6_next (st (st (upR vM 2 t) 0 12 (nI 0)) 0 16 (nI 0))).bind fun x => m_X6_tale_L23 FU x (nI 0)) = some (Sum.inl (r, vM')) from g3, bnd_s]
      rfl
    rw [e3]
    refine ⟨(r, vX, vR', vY, vC, vW, vD', vS, vI, vJ), (r, vM'), if_neg g2, rfl, rfl, ?_⟩
    have fr := fr0.trans g4
    have q := hI.same
    obtain ⟨⟨n', x', t1, t2, t3, t4, t5, t6⟩, i2, i3, i4⟩ := hI
    exact ⟨⟨n', x', t1, by omega, t3, (fr.2 6 (by omega)).trans t4, t5, by show TR n' x' (vM' 6); rw [fr.1 6 (by omega) (by omega)]; exact t6⟩, i2.up (fr.1 1 (by omega) (by omega)) (fr.1 3 (by omega) (by omega)) (fr.1 4 (by omega) (by omega)) (fr.1 5 (by omega) (by omega)), i3.up (fr.2 8 (by omega)) (fr.2 10 (by omega)) (fr.1 8 (by omega) (by omega)) (fr.1 10 (by omega) (by omega)), i4⟩
  · obtain ⟨gw, gw1, gw2⟩ := tale57 (nI m') FU 0 vM' (by omega) (by unfold FU; omega) (fun j hj => by omega)
    obtain ⟨gh, gh1, gh2⟩ := tale83 (nI m') FU 0 (upR vM' 1 gw) (by omega) (by unfold FU; omega) (fun j hj => by omega)
    have fr := fr0.trans g4
    rw [show (0 : Int32) = nI 0 from rfl] at g1 ⊢
    rw [g1, bnd_s]
    have e3 : ((m_X6_next (st (st (upR vM 2 t) 0 12 (nI 0)) 0 16 (nI 0))).bind fun o20 => (m_X6_tale_L23 FU o20 (nI 0)).bind fun o23_1 => Sum.elim (fun r => some r) (fun o23_1x => ((m_X6_tale_L57  FU o23_1x.1 o23_1x.2 (nI 0)).bind fun o57_2 => ((m_X6_tale_L83  FU o57_2.1 o57_2.2 (nI 0)).bind fun o83_3 => some (o83_3.2, (st (st (st (st (st o83_3.1 0 6 (nI 0)) 0 8 (nI 0)) 0 10 (nI 0)) 5 (Int32.toNatClampNeg (nI 0)) (vp_nar .boolean (nI 0))) 5 (Int32.toNatClampNeg (1 : Int32)) (vp_nar .boolean (nI 0))))))) o23_1) = some (nI m', st (st (st (st (st (upR (upR vM' 1 gw) 3 gh) 0 6 0) 0 8 0) 0 10 0) 5 0 0) 5 1 0) := by
      rw [← Option.bind_assoc]
      rw [show ((m_X6_next (st (st (upR vM 2 t) 0 12 (nI 0)) 0 16 (nI 0))).bind fun x => m_X6_tale_L23 FU x (nI 0)) = some (Sum.inr (vM', nI m')) from g3, bnd_s]
      rw [Sum.elim_inr]
      dsimp only
      rw [gw1, bnd_s]
      dsimp only
      rw [gh1, bnd_s, cl (show 0 < 2 ^ 31 by omega), c1, show vp_nar .boolean (nI 0) = (0 : Int32) by decide]
      rfl
    rw [e3]
    obtain ⟨vW', hb⟩ : ∃ vW', m_X4_becomeLike vW vD' = some vW' := ⟨_, rfl⟩
    have hWC := becomeW g5 g6 hb
    have q : ((m_X4_becomeLike vW vD').bind fun o31 => (m_X2_startAnew vS).bind fun o38 => (m_X3_forgetWay vY).bind fun o45 => (m_X0_forgetAll vC).bind fun o68 => some (nI m', st vX 0 1 (nI 0), vR', o45, o68, o31, vD', o38, st vI 0 4 (nI 0), st vJ 0 4 (nI 0))) = some (nI m', st vX 0 1 (nI 0), vR', st vY 0 7 (-9), st (st vC 0 0 0) 0 1 0, vW', vD', st (st (st (st vS 0 0 0) 0 1 0) 0 2 0) 0 3 0, st vI 0 4 (nI 0), st vJ 0 4 (nI 0)) := by
      rw [hb, bnd_s]; rfl
    refine ⟨(nI m', st vX 0 1 (nI 0), vR', st vY 0 7 (-9), st (st vC 0 0 0) 0 1 0, vW', vD', st (st (st (st vS 0 0 0) 0 1 0) 0 2 0) 0 3 0, st vI 0 4 (nI 0), st vJ 0 4 (nI 0)), _, (if_pos (show nI 0 ≤ nI m' from nI_pos' (by omega))).trans q, rfl, rfl, ?_⟩
    refine ⟨⟨0, x, ⟨by omega, fun i hi => by omega⟩, by omega, rfl, rfl, fun i hi => by omega, fun i hi => by omega⟩, ⟨w', ⟨g5, hWC, WM.cong g5 (g7.wm g5) gw2, by omega⟩, ⟨fun _ => 0, ⟨⟨show 0 < w' 0 ∨ (w' 0 = 0 ∧ 0 = 0) by omega, show 0 ≤ 9999 by omega, show 0 < 32 by omega, Nat.zero_and _⟩, show 0 ≤ 12 by omega, fun k hk => absurd hk (Nat.not_lt_zero k)⟩, ⟨rfl, rfl, rfl, rfl, fun k hk => absurd hk (Nat.not_lt_zero k)⟩, ⟨gh2 0 (by omega), gh2 1 (by omega), gh2 2 (by omega), gh2 3 (by omega), fun k hk => absurd hk (Nat.not_lt_zero k)⟩⟩, ⟨0, fun _ => 0, by omega, rfl, rfl, fun z => by omega⟩, ⟨0, fun _ => 0, by omega, rfl, rfl, fun z => by omega⟩, hK _ _⟩, ⟨0, fun _ => 0, 0, fun _ => 0, ⟨⟨by omega, fun k hk => by omega⟩, rfl, rfl, fun k hk => by omega, fun k hk => by omega⟩, ⟨by omega, fun k hk => by omega⟩, rfl, rfl, fun k hk => by omega, fun k hk => by omega⟩, ht⟩
