/-! PURE: rows of cups, in numbers -/
theorem php : ∀ (k m : Nat) (h : Nat → Nat), (∀ i, i < m → h i < k) → (∀ i j, i < m → j < m → h i = h j → i = j) → m ≤ k
  | 0, m, h, hk, hi => by
    rcases Nat.eq_zero_or_pos m with h0 | h0
    · omega
    · have := hk 0 h0; omega
  | k + 1, m, h, hk, hi => by
    rcases Nat.eq_zero_or_pos m with h0 | h0
    · omega
    · have := php k (m - 1) (fun i => if h i = k then h (m - 1) else h i) (fun i him => by
        show (if h i = k then h (m - 1) else h i) < k
        have a := hk i (by omega)
        have b := hk (m - 1) (by omega)
        split
        · next e =>
          have : h (m - 1) ≠ k := fun z => by
            have := hi i (m - 1) (by omega) (by omega) (by omega)
            omega
          omega
        · omega) (fun i j him hjm e => by
        have e' : (if h i = k then h (m - 1) else h i) = (if h j = k then h (m - 1) else h j) := e
        by_cases e1 : h i = k
        · by_cases e2 : h j = k
          · exact hi i j (by omega) (by omega) (by omega)
          · rw [if_pos e1, if_neg e2] at e'
            have := hi (m - 1) j (by omega) (by omega) e'
            omega
        · by_cases e2 : h j = k
          · rw [if_neg e1, if_pos e2] at e'
            have := hi i (m - 1) (by omega) (by omega) e'
            omega
          · rw [if_neg e1, if_neg e2] at e'
            exact hi i j (by omega) (by omega) e')
      omega
/-- unlike rows within others are no more than these -/
theorem inj_le {m k : Nat} {f g : Nat → Nat} (hf : ∀ i j, i < m → j < m → f i = f j → i = j) (h : ∀ i, i < m → ∃ j, j < k ∧ g j = f i) : m ≤ k := by
  refine php k m (fun i => if hi : i < m then (h i hi).choose else 0) (fun i hi => ?_) (fun i j hi hj e => ?_)
  · rw [dif_pos hi]; exact (h i hi).choose_spec.1
  · rw [dif_pos hi, dif_pos hj] at e
    have a := (h i hi).choose_spec.2
    have b := (h j hj).choose_spec.2
    rw [e] at a
    exact hf i j hi hj (a.symm.trans b)
def cd : Nat → (Nat → Nat) → Nat
  | 0, _ => 0
  | n + 1, r => 2 ^ (3 * n) * r n + cd n r
def swp (a b : Nat) (r : Nat → Nat) : Nat → Nat := fun k => if k = a then r b else if k = b then r a else r k
/-- the row by some, s, of the first k swaps x -/
def Rw (n : Nat) (x : Nat → Nat) : Nat → Nat → (Nat → Nat)
  | 0, _ => fun j => j
  | k + 1, s => if s.testBit k = true ∧ x (2 * k) < n ∧ x (2 * k + 1) < n then swp (x (2 * k)) (x (2 * k + 1)) (Rw n x k s) else Rw n x k s
theorem cd_lt {r : Nat → Nat} : ∀ {n : Nat}, (∀ k, k < n → r k < 8) → cd n r < 2 ^ (3 * n)
  | 0, _ => Nat.one_pos
  | n + 1, h => by
    have ih := cd_lt (n := n) (fun k hk => h k (by omega))
    have hr := h n (by omega)
    show 2 ^ (3 * n) * r n + cd n r < 2 ^ (3 * (n + 1))
    rw [show 3 * (n + 1) = 3 * n + 3 by omega, Nat.pow_add]
    have : 2 ^ (3 * n) * r n ≤ 2 ^ (3 * n) * 7 := Nat.mul_le_mul_left _ (by omega)
    omega
theorem cd_bit {r : Nat → Nat} : ∀ {n : Nat}, (∀ k, k < n → r k < 8) → ∀ i, (cd n r).testBit i = (decide (i < 3 * n) && (r (i / 3)).testBit (i % 3))
  | 0, _, i => by
    show (0 : Nat).testBit i = _
    rw [Nat.zero_testBit, decide_eq_false (by omega), Bool.false_and]
  | n + 1, h, i => by
    show (2 ^ (3 * n) * r n + cd n r).testBit i = _
    rw [Nat.testBit_two_pow_mul_add _ (cd_lt (fun k hk => h k (by omega)))]
    by_cases hi : i < 3 * n
    · rw [if_pos hi, cd_bit (fun k hk => h k (by omega)) i, decide_eq_true hi, decide_eq_true (show i < 3 * (n + 1) by omega)]
    · rw [if_neg hi]
      by_cases h2 : i < 3 * (n + 1)
      · rw [decide_eq_true h2, show i / 3 = n by omega, show i % 3 = i - 3 * n by omega, Bool.true_and]
      · rw [decide_eq_false h2, Bool.false_and]
        exact Nat.testBit_lt_two_pow (Nat.lt_of_lt_of_le (h n (by omega)) (by
          rw [show (8 : Nat) = 2 ^ 3 from rfl]
          exact Nat.pow_le_pow_right (by omega) (by omega)))
theorem cd_cup {r : Nat → Nat} {n k : Nat} (h : ∀ k, k < n → r k < 8) (hk : k < n) : (cd n r / 2 ^ (3 * k)) % 2 ^ 3 = r k := by
  apply Nat.eq_of_testBit_eq
  intro i
  rw [Nat.testBit_mod_two_pow, Nat.testBit_div_two_pow, cd_bit h]
  by_cases hi : i < 3
  · rw [decide_eq_true hi, decide_eq_true (show i + 3 * k < 3 * n by omega), show (i + 3 * k) / 3 = k by omega, show (i + 3 * k) % 3 = i by omega, Bool.true_and, Bool.true_and]
  · rw [decide_eq_false hi, Bool.false_and]
    exact (Nat.testBit_lt_two_pow (Nat.lt_of_lt_of_le (h k hk) (by
          rw [show (8 : Nat) = 2 ^ 3 from rfl]
          exact Nat.pow_le_pow_right (by omega) (by omega)))).symm
theorem cd_sw' {r : Nat → Nat} {n a b : Nat} (h : ∀ k, k < n → r k < 8) (ha : a < n) (hb : b < n) (hab : a ≠ b) : cd n r ^^^ (r a ^^^ r b) * 2 ^ (3 * a) ^^^ (r a ^^^ r b) * 2 ^ (3 * b) = cd n (swp a b r) := by
  apply Nat.eq_of_testBit_eq
  intro i
  have h' : ∀ k, k < n → swp a b r k < 8 := fun k hk => by
    unfold swp
    split
    · exact h b hb
    · split
      · exact h a ha
      · exact h k hk
  have hz : ∀ q j, q < n → 3 ≤ j → (r q).testBit j = false := fun q j hq hj => Nat.testBit_lt_two_pow (Nat.lt_of_lt_of_le (h q hq) (by
          rw [show (8 : Nat) = 2 ^ 3 from rfl]
          exact Nat.pow_le_pow_right (by omega) hj))
  rw [Nat.testBit_xor, Nat.testBit_xor, Nat.mul_comm (r a ^^^ r b) (2 ^ (3 * a)), Nat.mul_comm (r a ^^^ r b) (2 ^ (3 * b)), Nat.testBit_two_pow_mul, Nat.testBit_two_pow_mul, Nat.testBit_xor, Nat.testBit_xor, cd_bit h, cd_bit h']
  have other : ∀ c, c < n → i / 3 ≠ c → (decide (i ≥ 3 * c) && ((r a).testBit (i - 3 * c) ^^ (r b).testBit (i - 3 * c))) = false := fun c hc hne => by
    by_cases hle : i ≥ 3 * c
    · rw [hz a _ ha (by omega), hz b _ hb (by omega)]; simp
    · rw [decide_eq_false hle, Bool.false_and]
  by_cases hi : i < 3 * n
  · rw [decide_eq_true hi, Bool.true_and, Bool.true_and]
    by_cases e1 : i / 3 = a
    · rw [other b hb (by omega), Bool.xor_false, decide_eq_true (show i ≥ 3 * a by omega), Bool.true_and, show i - 3 * a = i % 3 by omega]
      unfold swp
      rw [if_pos e1, e1]
      cases (r a).testBit (i % 3) <;> cases (r b).testBit (i % 3) <;> rfl
    · rw [other a ha e1, Bool.xor_false]
      by_cases e2 : i / 3 = b
      · rw [decide_eq_true (show i ≥ 3 * b by omega), Bool.true_and, show i - 3 * b = i % 3 by omega]
        unfold swp
        rw [if_neg e1, if_pos e2, e2]
        cases (r a).testBit (i % 3) <;> cases (r b).testBit (i % 3) <;> rfl
      · rw [other b hb e2, Bool.xor_false]
        unfold swp
        rw [if_neg e1, if_neg e2]
  · rw [decide_eq_false hi, other a ha (by omega), other b hb (by omega)]; rfl
theorem swp_self (a : Nat) (r : Nat → Nat) : swp a a r = r := by
  funext k
  unfold swp
  by_cases h : k = a
  · rw [if_pos h, h]
  · rw [if_neg h, if_neg h]
theorem cd_sw {r : Nat → Nat} {n a b : Nat} (h : ∀ k, k < n → r k < 8) (ha : a < n) (hb : b < n) : cd n r ^^^ (r a ^^^ r b) * 2 ^ (3 * a) ^^^ (r a ^^^ r b) * 2 ^ (3 * b) = cd n (swp a b r) := by
  by_cases hab : a = b
  · subst hab
    rw [Nat.xor_self, Nat.zero_mul, Nat.xor_zero, Nat.xor_zero, swp_self]
  · exact cd_sw' h ha hb hab
theorem Rw_lt {n : Nat} {x : Nat → Nat} (hn : n ≤ 5) : ∀ {k s : Nat}, ∀ j, j < 5 → Rw n x k s j < 5
  | 0, s, j, hj => hj
  | k + 1, s, j, hj => by
    show (if s.testBit k = true ∧ x (2 * k) < n ∧ x (2 * k + 1) < n then swp (x (2 * k)) (x (2 * k + 1)) (Rw n x k s) else Rw n x k s) j < 5
    split
    · next h =>
      unfold swp
      split
      · exact Rw_lt hn _ (by omega)
      · split
        · exact Rw_lt hn _ (by omega)
        · exact Rw_lt hn j hj
    · exact Rw_lt hn j hj
theorem Rw_mod {n : Nat} {x : Nat → Nat} : ∀ {k s s' : Nat}, (∀ j, j < k → s.testBit j = s'.testBit j) → Rw n x k s = Rw n x k s'
  | 0, _, _, _ => rfl
  | k + 1, s, s', h => by
    show (if s.testBit k = true ∧ x (2 * k) < n ∧ x (2 * k + 1) < n then swp (x (2 * k)) (x (2 * k + 1)) (Rw n x k s) else Rw n x k s) = (if s'.testBit k = true ∧ x (2 * k) < n ∧ x (2 * k + 1) < n then swp (x (2 * k)) (x (2 * k + 1)) (Rw n x k s') else Rw n x k s')
    rw [h k (by omega), Rw_mod (fun j hj => h j (by omega))]
/-- which rows there are by the first k swaps -/
def InS (n : Nat) (x : Nat → Nat) (k c : Nat) : Prop := ∃ s, s < 2 ^ k ∧ c = cd n (Rw n x k s)
theorem InS_skip {n : Nat} {x : Nat → Nat} {k : Nat} (h : ¬ (x (2 * k) < n ∧ x (2 * k + 1) < n)) (c : Nat) : InS n x (k + 1) c ↔ InS n x k c := by
  have e : ∀ s, Rw n x (k + 1) s = Rw n x k s := fun s => if_neg (fun z => h z.2)
  constructor
  · rintro ⟨s, hs, hc⟩
    refine ⟨s % 2 ^ k, Nat.mod_lt _ (Nat.two_pow_pos k), ?_⟩
    rw [hc, e, Rw_mod (s' := s % 2 ^ k) (fun j hj => by rw [Nat.testBit_mod_two_pow, decide_eq_true hj, Bool.true_and])]
  · rintro ⟨s, hs, hc⟩
    exact ⟨s, by rw [Nat.pow_succ]; omega, by rw [e]; exact hc⟩
theorem InS_swap {n : Nat} {x : Nat → Nat} {k : Nat} (ha : x (2 * k) < n) (hb : x (2 * k + 1) < n) (c : Nat) : InS n x (k + 1) c ↔ (InS n x k c ∨ ∃ s, s < 2 ^ k ∧ c = cd n (swp (x (2 * k)) (x (2 * k + 1)) (Rw n x k s))) := by
  constructor
  · rintro ⟨s, hs, hc⟩
    have e : Rw n x k s = Rw n x k (s % 2 ^ k) := Rw_mod (fun j hj => by rw [Nat.testBit_mod_two_pow, decide_eq_true hj, Bool.true_and])
    cases hbit : s.testBit k with
    | true =>
      right
      refine ⟨s % 2 ^ k, Nat.mod_lt _ (Nat.two_pow_pos k), ?_⟩
      rw [hc, ← e]
      show cd n (if s.testBit k = true ∧ x (2 * k) < n ∧ x (2 * k + 1) < n then _ else _) = _
      rw [if_pos ⟨hbit, ha, hb⟩]
    | false =>
      left
      refine ⟨s % 2 ^ k, Nat.mod_lt _ (Nat.two_pow_pos k), ?_⟩
      rw [hc, ← e]
      show cd n (if s.testBit k = true ∧ x (2 * k) < n ∧ x (2 * k + 1) < n then _ else _) = _
      rw [if_neg (fun z => by rw [hbit] at z; exact absurd z.1 (by decide))]
  · rintro (⟨s, hs, hc⟩ | ⟨s, hs, hc⟩)
    · refine ⟨s, by rw [Nat.pow_succ]; omega, ?_⟩
      rw [hc]
      show _ = cd n (if s.testBit k = true ∧ x (2 * k) < n ∧ x (2 * k + 1) < n then _ else _)
      rw [if_neg (fun z => by rw [Nat.testBit_lt_two_pow hs] at z; exact absurd z.1 (by decide))]
    · refine ⟨2 ^ k + s, by rw [Nat.pow_succ]; omega, ?_⟩
      have e : Rw n x k (2 ^ k + s) = Rw n x k s := Rw_mod (fun j hj => Nat.testBit_two_pow_add_gt hj s)
      have hbit : (2 ^ k + s).testBit k = true := by rw [Nat.testBit_two_pow_add_eq, Nat.testBit_lt_two_pow hs]; rfl
      rw [hc]
      show _ = cd n (if (2 ^ k + s).testBit k = true ∧ x (2 * k) < n ∧ x (2 * k + 1) < n then _ else _)
      rw [if_pos ⟨hbit, ha, hb⟩, e]
