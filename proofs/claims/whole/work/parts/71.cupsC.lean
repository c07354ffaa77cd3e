/-! PURE: rows of cups, the class -/
theorem shl3 : ∀ o, o < 8 → ∀ a, a < 5 → nI o <<< (((3 : Int32) * nI a) &&& 31) = nI (o * 2 ^ (3 * a)) := by decide +kernel
theorem sm3 : ∀ a, a < 5 → ((((3 : Int32) * nI a) &&& 31).toBitVec.smod 32).toNat = 3 * a := by decide +kernel
theorem cup3 {c a : Nat} (hc : c < 2 ^ 20) (ha : a < 5) : (nI c >>> (((3 : Int32) * nI a) &&& 31)) &&& 7 = nI ((c / 2 ^ (3 * a)) % 2 ^ 3) := by
  have hd : c / 2 ^ (3 * a) ≤ c := Nat.div_le_self _ _
  rw [pk_shrN (by omega) _ (3 * a) (sm3 a ha), pk_andN (by omega) 3 (by decide)]
theorem cupOnC {n a : Nat} {r : Nat → Nat} (hn : n ≤ 5) (hr : ∀ k, k < n → r k < 8) (ha : a < n) : m_X0_cupOn (nI (cd n r)) (nI a) = some (nI (r a)) := by
  have h1 := cd_lt hr
  have h2 : 2 ^ (3 * n) ≤ 2 ^ 15 := Nat.pow_le_pow_right (by omega) (by omega)
  unfold m_X0_cupOn
  rw [cup3 (by omega) (by omega), cd_cup hr ha]
/-- m unlike rows f of the class -/
def CR (m : Nat) (f : Nat → Nat) (vC : Ob) : Prop := m ≤ 64 ∧ vC 0 2 = nI m ∧ (∀ i, i < m → vC 8 i = nI (f i) ∧ f i < 2 ^ 15) ∧ ∀ i j, i < m → j < m → f i = f j → i = j
/-- the cups are left alone but for the rows -/
def FC (a b : Ob) : Prop := (∀ r, r ≠ 0 → r ≠ 8 → b r = a r) ∧ ∀ c, c ≠ 2 → b 0 c = a 0 c
theorem FC.refl (a : Ob) : FC a a := ⟨fun _ _ _ => rfl, fun _ _ => rfl⟩
theorem FC.trans {a b c : Ob} (h : FC a b) (h2 : FC b c) : FC a c := ⟨fun r h0 h3 => (h2.1 r h0 h3).trans (h.1 r h0 h3), fun i hi => (h2.2 i hi).trans (h.2 i hi)⟩
theorem FC.st2 (a : Ob) (v : Int32) : FC a (st a 0 2 v) := ⟨fun _ h0 _ => st_row_ne _ _ _ h0, fun i hi => by rw [st_get, if_neg (fun z => hi z.2)]⟩
theorem FC.st8 (a : Ob) (c : Nat) (v : Int32) : FC a (st a 8 c v) := ⟨fun _ _ h2 => st_row_ne _ _ _ h2, fun i hi => by rw [st_get, if_neg (by omega)]⟩
theorem addRowL {m : Nat} {f : Nat → Nat} {vC : Ob} (h : CR m f vC) {c : Nat} (hc : c < 2 ^ 15) : ∀ (u i : Nat), i ≤ m → m - i < u → (∀ j, j < i → f j ≠ c) → (∃ j, j < m ∧ f j = c ∧ m_X0_addRow_L2 u vC (nI c) (nI i) = some (.inl vC)) ∨ ((∀ j, j < m → f j ≠ c) ∧ m_X0_addRow_L2 u vC (nI c) (nI i) = some (.inr (vC, nI c)))
  | 0, i, hi, hu, hj => by omega
  | u + 1, i, hi, hu, hj => by
    obtain ⟨h64, h2, h8, -⟩ := id h
    show (∃ j, j < m ∧ f j = c ∧ m_X0_addRow_L2B (m_X0_addRow_L2 u) vC (nI c) (nI i) = _) ∨ (_ ∧ m_X0_addRow_L2B (m_X0_addRow_L2 u) vC (nI c) (nI i) = _)
    unfold m_X0_addRow_L2B
    rw [h2, show (64 : Int32) = nI 64 from rfl, nI_1]
    by_cases him : i < m
    · obtain ⟨e8, hf⟩ := h8 i him
      rw [if_neg (nI_ge him (by omega)), if_neg (nI_ge (by omega) (by omega)), grd_t (inb_nI (by omega) (by omega)), cl (by omega), e8, if_nI (by omega) (by omega)]
      by_cases hic : f i = c
      · left
        rw [if_pos hic]
        exact ⟨i, him, hic, rfl⟩
      · rw [if_neg hic]
        exact addRowL h hc u (i + 1) (by omega) (by omega) (fun j hj' => by
          by_cases hji : j = i
          · rw [hji]; exact hic
          · exact hj j (by omega))
    · right
      rw [if_pos (nI_le (by omega) (by omega))]
      exact ⟨fun j hj' => hj j (by omega), rfl⟩
theorem addRowC {m : Nat} {f : Nat → Nat} {vC : Ob} (h : CR m f vC) {c : Nat} (hc : c < 2 ^ 15) (hm : m < 64) : ∃ (m' : Nat) (f' : Nat → Nat) (vC' : Ob), m_X0_addRow vC (nI c) = some vC' ∧ CR m' f' vC' ∧ FC vC vC' ∧ m ≤ m' ∧ m' ≤ m + 1 ∧ (∀ i, i < m → f' i = f i) ∧ (∀ d, (∃ i, i < m' ∧ f' i = d) ↔ ((∃ i, i < m ∧ f i = d) ∨ d = c)) := by
  unfold m_X0_addRow
  rw [show (0 : Int32) = nI 0 from rfl]
  rcases addRowL h hc FU 0 (by omega) (by unfold FU; omega) (fun j hj => by omega) with ⟨j, hj, hjc, e⟩ | ⟨hne, e⟩
  · rw [e, bnd_s]
    refine ⟨m, f, vC, rfl, h, FC.refl _, Nat.le_refl _, by omega, fun _ _ => rfl, fun d => ⟨Or.inl, ?_⟩⟩
    rintro (hd | rfl)
    · exact hd
    · exact ⟨j, hj, hjc⟩
  · rw [e, bnd_s, Sum.elim_inr]
    obtain ⟨h64, h2, h8, hin⟩ := h
    dsimp only
    rw [show nI 0 = (0 : Int32) from rfl, h2, pw_isWithin, bnd_s, if_bi, nI_toInt (by omega), ti0, show (63 : Int32).toInt = 63 by decide, if_pos (by omega), grd_t (inb_nI (by omega) (by omega)), cl (by omega), nI_1]
    refine ⟨m + 1, fun i => if i = m then c else f i, _, rfl, ⟨by omega, rfl, fun i hi => ?_, fun i j hi hj e => ?_⟩, (FC.st8 _ _ _).trans (FC.st2 _ _), by omega, Nat.le_refl _, fun i hi => if_neg (by omega), fun d => ⟨?_, ?_⟩⟩
    · show upd (vC 8) m (nI c) i = nI (if i = m then c else f i) ∧ (if i = m then c else f i) < 2 ^ 15
      by_cases him : i = m
      · rw [him, upd_eq, if_pos rfl]; exact ⟨rfl, hc⟩
      · rw [upd_ne _ _ him, if_neg him]; exact h8 i (by omega)
    · have e' : (if i = m then c else f i) = (if j = m then c else f j) := e
      by_cases h1 : i = m
      · by_cases h3 : j = m
        · omega
        · rw [if_pos h1, if_neg h3] at e'
          exact absurd e'.symm (hne j (by omega))
      · by_cases h3 : j = m
        · rw [if_neg h1, if_pos h3] at e'
          exact absurd e' (hne i (by omega))
        · rw [if_neg h1, if_neg h3] at e'
          exact hin i j (by omega) (by omega) e'
    · rintro ⟨i, hi, hd⟩
      have hd' : (if i = m then c else f i) = d := hd
      by_cases him : i = m
      · rw [if_pos him] at hd'; exact Or.inr hd'.symm
      · rw [if_neg him] at hd'; exact Or.inl ⟨i, by omega, hd'⟩
    · rintro (⟨i, hi, hd⟩ | rfl)
      · exact ⟨i, by omega, by show (if i = m then c else f i) = d; rw [if_neg (by omega)]; exact hd⟩
      · exact ⟨m, by omega, if_pos rfl⟩
/-- the loop over the rows there were, m0 of them -/
theorem addSwL {n a b m0 : Nat} {f0 : Nat → Nat} (hn : n ≤ 5) (ha : a < n) (hb : b < n) (hm0 : m0 ≤ 32) (hrow : ∀ i, i < m0 → ∃ r : Nat → Nat, (∀ k, k < n → r k < 8) ∧ f0 i = cd n r) : ∀ (u i m : Nat) (f : Nat → Nat) (vC : Ob), i ≤ m0 → m0 - i < u → CR m f vC → m0 ≤ m → m ≤ m0 + i → (∀ j, j < m0 → f j = f0 j) → ∃ (m' : Nat) (f' : Nat → Nat) (vC' : Ob), m_X0_addSwappedRows_L13 u vC (nI a) (nI b) (nI m0) (nI i) = some vC' ∧ CR m' f' vC' ∧ FC vC vC' ∧ m' ≤ 2 * m0 ∧ (∀ d, (∃ j, j < m' ∧ f' j = d) ↔ ((∃ j, j < m ∧ f j = d) ∨ ∃ j, i ≤ j ∧ j < m0 ∧ ∃ r : Nat → Nat, (∀ k, k < n → r k < 8) ∧ f0 j = cd n r ∧ d = cd n (swp a b r)))
  | 0, i, m, f, vC, hi, hu, h, h1, h2, h3 => by omega
  | u + 1, i, m, f, vC, hi, hu, h, h1, h2, h3 => by
    show ∃ (m' : Nat) (f' : Nat → Nat) (vC' : Ob), m_X0_addSwappedRows_L13B (m_X0_addSwappedRows_L13 u) vC (nI a) (nI b) (nI m0) (nI i) = some vC' ∧ _
    unfold m_X0_addSwappedRows_L13B
    by_cases him : i < m0
    · obtain ⟨r, hr, hfr⟩ := hrow i him
      have e8 := (h.2.2.1 i (by omega)).1
      rw [h3 i him, hfr] at e8
      have hx : r a ^^^ r b < 8 := Nat.xor_lt_two_pow (n := 3) (hr a ha) (hr b hb)
      rw [if_neg (nI_ge him (by omega)), grd_t (inb_nI (by omega) (by omega)), cl (by omega), e8, cupOnC hn hr ha, bnd_s, grd_t (inb_nI (by omega) (by omega)), cupOnC hn hr hb, bnd_s, grd_t (inb_nI (by omega) (by omega)), nx_xor, shl3 _ hx a (by omega), shl3 _ hx b (by omega), nx_xor, nx_xor, cd_sw hr ha hb, nI_1]
      have hr' : ∀ k, k < n → swp a b r k < 8 := fun k hk => by
        unfold swp
        split
        · exact hr b hb
        · split
          · exact hr a ha
          · exact hr k hk
      have hcl : cd n (swp a b r) < 2 ^ 15 := Nat.lt_of_lt_of_le (cd_lt hr') (Nat.pow_le_pow_right (by omega) (by omega))
      obtain ⟨m1, f1, vC1, g1, g2, g3, g4, g5, g6, g7⟩ := addRowC h hcl (by omega)
      rw [g1, bnd_s]
      obtain ⟨m', f', vC', k1, k2, k3, k4, k5⟩ := addSwL hn ha hb hm0 hrow u (i + 1) m1 f1 vC1 (by omega) (by omega) g2 (by omega) (by omega) (fun j hj => by rw [g6 j (by omega)]; exact h3 j hj)
      refine ⟨m', f', vC', k1, k2, g3.trans k3, k4, fun d => ?_⟩
      rw [k5, g7]
      constructor
      · rintro ((hd | rfl) | ⟨j, y1, y2, y3⟩)
        · exact Or.inl hd
        · exact Or.inr ⟨i, Nat.le_refl _, him, r, hr, hfr, rfl⟩
        · exact Or.inr ⟨j, by omega, y2, y3⟩
      · rintro (hd | ⟨j, y1, y2, q, y3, y4, y5⟩)
        · exact Or.inl (Or.inl hd)
        · by_cases hji : j = i
          · left; right
            rw [y5]
            rw [hji, hfr] at y4
            have hq : ∀ k, k < n → q k = r k := fun k hk => by rw [← cd_cup y3 hk, ← cd_cup hr hk, y4]
            rw [← cd_sw y3 ha hb, ← cd_sw hr ha hb, y4, hq a ha, hq b hb]
          · exact Or.inr ⟨j, by omega, y2, q, y3, y4, y5⟩
    · rw [if_pos (nI_le (by omega) (by omega))]
      refine ⟨m, f, vC, rfl, h, FC.refl _, by omega, fun d => ⟨Or.inl, ?_⟩⟩
      rintro (hd | ⟨j, y1, y2, y3⟩)
      · exact hd
      · omega
theorem rowFirst : ∀ n, n < 6 → m_X0_rowAtFirst (nI n) = some (nI (cd n (fun k => k))) := by decide +kernel
/-- the swaps -/
theorem gatherL {n c : Nat} {x : Nat → Nat} (hn : n ≤ 5) (hP : PV c x) : ∀ (u k m : Nat) (f : Nat → Nat) (vC : Ob), k ≤ c → c - k < u → CR m f vC → m ≤ 2 ^ k → vC 0 0 = nI c → PC c x (vC 4) (vC 5) → (∀ d, (∃ i, i < m ∧ f i = d) ↔ InS n x k d) → ∃ (m' : Nat) (f' : Nat → Nat) (vC' : Ob), m_X0_gatherRows_L15 u vC (nI n) (nI k) = some (vC', nI n) ∧ CR m' f' vC' ∧ FC vC vC' ∧ ∀ d, (∃ i, i < m' ∧ f' i = d) ↔ InS n x c d
  | 0, k, m, f, vC, hk, hu, h, hm, h0, hpc, hS => by omega
  | u + 1, k, m, f, vC, hk, hu, h, hm, h0, hpc, hS => by
    have hc6 := hP.1
    show ∃ (m' : Nat) (f' : Nat → Nat) (vC' : Ob), m_X0_gatherRows_L15B (m_X0_gatherRows_L15 u) vC (nI n) (nI k) = some (vC', nI n) ∧ _
    unfold m_X0_gatherRows_L15B m_X0_gatherRows_j65
    rw [h0, show (6 : Int32) = nI 6 from rfl, nI_1]
    by_cases hkc : k < c
    · obtain ⟨p1, p2⟩ := hpc k hkc
      have x1 := hP.2 (2 * k) (by omega)
      have x2 := hP.2 (2 * k + 1) (by omega)
      have hpw : (2 : Nat) ^ k ≤ 2 ^ 5 := Nat.pow_le_pow_right (by omega) (by omega)
      rw [if_neg (nI_ge hkc (by omega)), if_neg (nI_ge (by omega) (by omega)), grd_t (inb_nI (by omega) (by omega)), grd_t (inb_nI (by omega) (by omega)), grd_t (inb_nI (by omega) (by omega)), grd_t (inb_nI (by omega) (by omega)), cl (by omega), p1, p2]
      have hskip : ¬ (x (2 * k) < n ∧ x (2 * k + 1) < n) → ∃ (m' : Nat) (f' : Nat → Nat) (vC' : Ob), m_X0_gatherRows_L15 u vC (nI n) (nI (k + 1)) = some (vC', nI n) ∧ CR m' f' vC' ∧ FC vC vC' ∧ ∀ d, (∃ i, i < m' ∧ f' i = d) ↔ InS n x c d := fun hs =>
        gatherL hn hP u (k + 1) m f vC (by omega) (by omega) h (by rw [Nat.pow_succ]; omega) h0 hpc (fun d => by rw [InS_skip hs]; exact hS d)
      by_cases ha : x (2 * k) < n
      · rw [if_neg (nI_ge ha (by omega))]
        by_cases hb : x (2 * k + 1) < n
        · rw [if_neg (nI_ge hb (by omega))]
          have hrow : ∀ i, i < m → ∃ r : Nat → Nat, (∀ k, k < n → r k < 8) ∧ f i = cd n r := fun i hi => by
            obtain ⟨s, hs, he⟩ := (hS (f i)).mp ⟨i, hi, rfl⟩
            exact ⟨_, fun q hq => by have := Rw_lt hn (x := x) (k := k) (s := s) q (by omega); omega, he⟩
          have hmin : (if (64 : Int32) < vC 0 2 then (64 : Int32) else vC 0 2) = nI m := by
            rw [h.2.1, if_neg]
            rw [show (64 : Int32) = nI 64 from rfl]
            exact nI_nlt (by omega) (by omega)
          obtain ⟨m1, f1, vC1, g1, g2, g3, g4, g5⟩ := addSwL hn ha hb (by omega) hrow FU 0 m f vC (by omega) (by unfold FU; omega) h (Nat.le_refl _) (by omega) (fun _ _ => rfl)
          unfold m_X0_addSwappedRows
          rw [hmin, show (0 : Int32) = nI 0 from rfl, g1, bnd_s, bnd_s]
          obtain ⟨m', f', vC', k1, k2, k3, k4⟩ := gatherL hn hP u (k + 1) m1 f1 vC1 (by omega) (by omega) g2 (by rw [Nat.pow_succ]; omega) ((g3.2 0 (by omega)).trans h0) (by rw [g3.1 4 (by omega) (by omega), g3.1 5 (by omega) (by omega)]; exact hpc) (fun d => by
            rw [InS_swap ha hb, g5, hS]
            constructor
            · rintro (hd | ⟨j, y1, y2, q, y3, y4, y5⟩)
              · exact Or.inl hd
              · right
                obtain ⟨s, hs, he⟩ := (hS (f j)).mp ⟨j, y2, rfl⟩
                have hr : ∀ q, q < n → Rw n x k s q < 8 := fun q hq => by have := Rw_lt hn (x := x) (k := k) (s := s) q (by omega); omega
                refine ⟨s, hs, ?_⟩
                have hq : ∀ k', k' < n → q k' = Rw n x k s k' := fun k' hk' => by rw [← cd_cup y3 hk', ← cd_cup hr hk', ← y4, ← he]
                rw [y5, ← cd_sw y3 ha hb, ← cd_sw hr ha hb, hq _ ha, hq _ hb, ← y4, ← he]
            · rintro (hd | ⟨s, hs, hd⟩)
              · exact Or.inl hd
              · right
                obtain ⟨j, hj, he⟩ := (hS (cd n (Rw n x k s))).mpr ⟨s, hs, rfl⟩
                exact ⟨j, by omega, hj, Rw n x k s, fun q hq => by have := Rw_lt hn (x := x) (k := k) (s := s) q (by omega); omega, he, hd⟩)
          exact ⟨m', f', vC', k1, k2, g3.trans k3, k4⟩
        · rw [if_pos (nI_le (by omega) (by omega))]
          exact hskip (fun z => hb z.2)
      · rw [if_pos (nI_le (by omega) (by omega))]
        exact hskip (fun z => ha z.1)
    · have : k = c := by omega
      subst this
      rw [if_pos (nI_le (by omega) (by omega))]
      exact ⟨m, f, vC, rfl, h, FC.refl _, hS⟩
