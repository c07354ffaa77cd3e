/-! PURE: what was tasted (class); the reference's rows -/
def okc (n e : Nat) (y : Nat → Nat) (d : Nat) : Prop := ∀ k, k < e → y (2 * k) < n ∧ (d / 2 ^ (3 * y (2 * k))) % 2 ^ 3 = y (2 * k + 1)
theorem tastedL {n e : Nat} {y : Nat → Nat} {vC : Ob} (hn : n ≤ 5) (hP : PV e y) (h1 : vC 0 1 = nI e) (hpc : PC e y (vC 6) (vC 7)) {d : Nat} (hd : d < 2 ^ 15) : ∀ (u k : Nat), k ≤ e → e - k < u → (∀ j, j < k → y (2 * j) < n ∧ (d / 2 ^ (3 * y (2 * j))) % 2 ^ 3 = y (2 * j + 1)) → (okc n e y d ∧ m_X0_isAsTasted_L2 vC u (nI d) (nI n) (nI k) = some (.inr ())) ∨ (¬ okc n e y d ∧ m_X0_isAsTasted_L2 vC u (nI d) (nI n) (nI k) = some (.inl 0))
  | 0, k, hk, hu, hj => by omega
  | u + 1, k, hk, hu, hj => by
    have hc6 := hP.1
    show (_ ∧ m_X0_isAsTasted_L2B vC (m_X0_isAsTasted_L2 vC u) (nI d) (nI n) (nI k) = _) ∨ (_ ∧ m_X0_isAsTasted_L2B vC (m_X0_isAsTasted_L2 vC u) (nI d) (nI n) (nI k) = _)
    unfold m_X0_isAsTasted_L2B
    rw [h1, show (6 : Int32) = nI 6 from rfl, nI_1]
    by_cases hke : k < e
    · obtain ⟨p1, p2⟩ := hpc k hke
      have x1 := hP.2 (2 * k) (by omega)
      have x2 := hP.2 (2 * k + 1) (by omega)
      have hm8 : (d / 2 ^ (3 * y (2 * k))) % 2 ^ 3 < 8 := Nat.mod_lt _ (by omega)
      rw [if_neg (nI_ge hke (by omega)), if_neg (nI_ge (by omega) (by omega)), grd_t (inb_nI (by omega) (by omega)), grd_t (inb_nI (by omega) (by omega)), cl (by omega), p1, p2]
      by_cases ha : y (2 * k) < n
      · rw [if_neg (nI_ge ha (by omega))]
        unfold m_X0_cupOn
        rw [cup3 (by omega) (by omega), bnd_s, grd_t (inb_nI (by omega) (by omega)), if_nI (by omega) (by omega)]
        by_cases hb : (d / 2 ^ (3 * y (2 * k))) % 2 ^ 3 = y (2 * k + 1)
        · rw [if_pos hb]
          exact tastedL hn hP h1 hpc hd u (k + 1) (by omega) (by omega) (fun j hj' => by
            by_cases hjk : j = k
            · rw [hjk]; exact ⟨ha, hb⟩
            · exact hj j (by omega))
        · right
          rw [if_neg hb]
          exact ⟨fun z => hb (z k hke).2, rfl⟩
      · right
        rw [if_pos (nI_le (by omega) (by omega))]
        exact ⟨fun z => ha (z k hke).1, rfl⟩
    · left
      rw [if_pos (nI_le (by omega) (by omega))]
      exact ⟨fun j hj' => hj j (by omega), rfl⟩
theorem tastedC {n e : Nat} {y : Nat → Nat} {vC : Ob} (hn : n ≤ 5) (hP : PV e y) (h1 : vC 0 1 = nI e) (hpc : PC e y (vC 6) (vC 7)) {d : Nat} (hd : d < 2 ^ 15) : (okc n e y d ∧ m_X0_isAsTasted vC (nI d) (nI n) = some 1) ∨ (¬ okc n e y d ∧ m_X0_isAsTasted vC (nI d) (nI n) = some 0) := by
  unfold m_X0_isAsTasted
  rw [show (0 : Int32) = nI 0 from rfl]
  have h6 := hP.1
  rcases tastedL hn hP h1 hpc hd FU 0 (by omega) (by unfold FU; omega) (fun j hj => by omega) with ⟨a, b⟩ | ⟨a, b⟩
  · rw [b]; exact Or.inl ⟨a, rfl⟩
  · rw [b]; exact Or.inr ⟨a, rfl⟩
theorem dropL {n e m : Nat} {y f : Nat → Nat} (hn : n ≤ 5) (hP : PV e y) (hm : m ≤ 64) (hf : ∀ i, i < m → f i < 2 ^ 15) (hfi : ∀ i j, i < m → j < m → f i = f j → i = j) : ∀ (u i l : Nat) (g : Nat → Nat) (vC : Ob), i ≤ m → m - i < u → l ≤ i → vC 0 2 = nI m → vC 0 1 = nI e → PC e y (vC 6) (vC 7) → (∀ j, i ≤ j → j < m → vC 8 j = nI (f j)) → (∀ j, j < l → vC 8 j = nI (g j) ∧ g j < 2 ^ 15) → (∀ a b, a < l → b < l → g a = g b → a = b) → (∀ d, (∃ j, j < l ∧ g j = d) ↔ ((∃ j, j < i ∧ f j = d) ∧ okc n e y d)) → ∃ (l' : Nat) (g' : Nat → Nat) (vC' : Ob), m_X0_dropUntasted_L4 u vC (nI n) (nI l) (nI i) = some (vC', nI l') ∧ l' ≤ m ∧ FC vC vC' ∧ (∀ j, j < l' → vC' 8 j = nI (g' j) ∧ g' j < 2 ^ 15) ∧ (∀ a b, a < l' → b < l' → g' a = g' b → a = b) ∧ (∀ d, (∃ j, j < l' ∧ g' j = d) ↔ ((∃ j, j < m ∧ f j = d) ∧ okc n e y d))
  | 0, i, l, g, vC, hi, hu, hl, h2, h1, hpc, hq, hg, hgi, hS => by omega
  | u + 1, i, l, g, vC, hi, hu, hl, h2, h1, hpc, hq, hg, hgi, hS => by
    show ∃ (l' : Nat) (g' : Nat → Nat) (vC' : Ob), m_X0_dropUntasted_L4B (m_X0_dropUntasted_L4 u) vC (nI n) (nI l) (nI i) = some (vC', nI l') ∧ _
    unfold m_X0_dropUntasted_L4B m_X0_dropUntasted_j50
    rw [h2, show (64 : Int32) = nI 64 from rfl, nI_1]
    by_cases him : i < m
    · rw [if_neg (nI_ge him (by omega)), if_neg (nI_ge (by omega) (by omega)), grd_t (inb_nI (by omega) (by omega)), grd_t (inb_nI (by omega) (by omega)), grd_t (inb_nI (by omega) (by omega)), cl (by omega), cl (by omega), hq i (Nat.le_refl _) him, nI_1]
      rcases tastedC hn hP h1 hpc (hf i him) with ⟨hok, e1⟩ | ⟨hok, e1⟩
      · rw [e1, bnd_s, if1]
        have hnew : ∀ j, j < l → g j ≠ f i := fun j hj he => by
          obtain ⟨q, hq', hqe⟩ := ((hS (g j)).mp ⟨j, hj, rfl⟩).1
          have := hfi q i (by omega) him (hqe.trans he)
          omega
        obtain ⟨l', g', vC', k1, k2, k3, k4⟩ := dropL hn hP hm hf hfi u (i + 1) (l + 1) (fun j => if j = l then f i else g j) (st vC 8 l (nI (f i))) (by omega) (by omega) (by omega) h2 h1 hpc (fun j hj1 hj2 => by
            show upd (vC 8) l (nI (f i)) j = nI (f j)
            rw [upd_ne _ _ (by omega)]; exact hq j (by omega) hj2) (fun j hj => by
            show upd (vC 8) l (nI (f i)) j = nI (if j = l then f i else g j) ∧ (if j = l then f i else g j) < 2 ^ 15
            by_cases hjl : j = l
            · rw [hjl, upd_eq, if_pos rfl]; exact ⟨rfl, hf i him⟩
            · rw [upd_ne _ _ hjl, if_neg hjl]; exact hg j (by omega)) (fun a b ha hb he => by
            have he' : (if a = l then f i else g a) = (if b = l then f i else g b) := he
            by_cases h3 : a = l
            · by_cases h4 : b = l
              · omega
              · rw [if_pos h3, if_neg h4] at he'
                exact absurd he'.symm (hnew b (by omega))
            · by_cases h4 : b = l
              · rw [if_neg h3, if_pos h4] at he'
                exact absurd he' (hnew a (by omega))
              · rw [if_neg h3, if_neg h4] at he'
                exact hgi a b (by omega) (by omega) he') (fun d => by
            constructor
            · rintro ⟨j, hj, he⟩
              have he' : (if j = l then f i else g j) = d := he
              by_cases hjl : j = l
              · rw [if_pos hjl] at he'
                exact ⟨⟨i, by omega, he'⟩, he' ▸ hok⟩
              · rw [if_neg hjl] at he'
                obtain ⟨⟨q, q1, q2⟩, q3⟩ := (hS d).mp ⟨j, by omega, he'⟩
                exact ⟨⟨q, by omega, q2⟩, q3⟩
            · rintro ⟨⟨q, q1, q2⟩, q3⟩
              by_cases hqi : q = i
              · exact ⟨l, by omega, by show (if l = l then f i else g l) = d; rw [if_pos rfl, ← hqi]; exact q2⟩
              · obtain ⟨j, j1, j2⟩ := (hS d).mpr ⟨⟨q, by omega, q2⟩, q3⟩
                exact ⟨j, by omega, by show (if j = l then f i else g j) = d; rw [if_neg (by omega)]; exact j2⟩)
        exact ⟨l', g', vC', k1, k2, (FC.st8 _ _ _).trans k3, k4⟩
      · rw [e1, bnd_s, if0]
        exact dropL hn hP hm hf hfi u (i + 1) l g vC (by omega) (by omega) (by omega) h2 h1 hpc (fun j hj1 hj2 => hq j (by omega) hj2) hg hgi (fun d => by
          rw [hS]
          constructor
          · rintro ⟨⟨q, q1, q2⟩, q3⟩
            exact ⟨⟨q, by omega, q2⟩, q3⟩
          · rintro ⟨⟨q, q1, q2⟩, q3⟩
            by_cases hqi : q = i
            · rw [hqi] at q2
              exact absurd (q2 ▸ q3) hok
            · exact ⟨⟨q, by omega, q2⟩, q3⟩)
    · have : i = m := by omega
      subst this
      rw [if_pos (nI_le (by omega) (by omega))]
      exact ⟨l, g, vC, rfl, hl, FC.refl _, hg, hgi, hS⟩
theorem gatherC {n c e : Nat} {x y : Nat → Nat} {vC : Ob} (hn : n ≤ 5) (hP : PV c x) (hQ : PV e y) (h0 : vC 0 0 = nI c) (h1 : vC 0 1 = nI e) (hpc : PC c x (vC 4) (vC 5)) (hpd : PC e y (vC 6) (vC 7)) : ∃ (m : Nat) (f : Nat → Nat) (vC' : Ob), m_X0_gatherRows vC (nI n) = some vC' ∧ CR m f vC' ∧ FC vC vC' ∧ ∀ d, (∃ i, i < m ∧ f i = d) ↔ (InS n x c d ∧ okc n e y d) := by
  have hc6 := hP.1
  unfold m_X0_gatherRows
  have hcl : cd n (fun k => k) < 2 ^ 15 := Nat.lt_of_lt_of_le (cd_lt (fun k hk => by omega)) (Nat.pow_le_pow_right (by omega) (by omega))
  obtain ⟨m1, f1, vC1, a1, a2, a3, a4, a5, a6, a7⟩ := addRowC (vC := st vC 0 2 0) (m := 0) (f := fun _ => 0) ⟨by omega, rfl, fun i hi => by omega, fun i j hi => by omega⟩ hcl (by omega)
  obtain ⟨m2, f2, vC2, b1, b2, b3, b4⟩ := gatherL hn hP FU 0 m1 f1 vC1 (by omega) (by unfold FU; omega) a2 (by omega) ((a3.2 0 (by omega)).trans h0) (by rw [a3.1 4 (by omega) (by omega), a3.1 5 (by omega) (by omega)]; exact hpc) (fun d => by
    rw [a7]
    constructor
    · rintro (⟨i, hi, -⟩ | rfl)
      · omega
      · exact ⟨0, by omega, rfl⟩
    · rintro ⟨s, hs, rfl⟩
      exact Or.inr rfl)
  have fr2 := ((FC.st2 vC 0).trans a3).trans b3
  obtain ⟨l, g, vC3, d1, d2, d3, d4, d5, d6⟩ := dropL hn hQ b2.1 (fun i hi => (b2.2.2.1 i hi).2) b2.2.2.2 FU 0 0 (fun _ => 0) vC2 (by omega) (by have := b2.1; unfold FU; omega) (by omega) b2.2.1 ((fr2.2 1 (by omega)).trans h1) (by rw [fr2.1 6 (by omega) (by omega), fr2.1 7 (by omega) (by omega)]; exact hpd) (fun j _ hj => (b2.2.2.1 j hj).1) (fun j hj => by omega) (fun a b ha => by omega) (fun d => ⟨fun ⟨j, hj, _⟩ => by omega, fun ⟨⟨j, hj, _⟩, _⟩ => by omega⟩)
  rw [rowFirst n (by omega), bnd_s, a1, bnd_s, show (0 : Int32) = nI 0 from rfl, b1, bnd_s]
  unfold m_X0_dropUntasted
  rw [show (0 : Int32) = nI 0 from rfl]
  dsimp only
  rw [d1, bnd_s, bnd_s]
  exact ⟨l, g, _, rfl, ⟨by have := b2.1; omega, rfl, d4, d5⟩, (fr2.trans d3).trans (FC.st2 _ _), fun d => by rw [d6, b4]⟩
