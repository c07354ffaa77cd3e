/-! PURE 1: leaves. No word of the machine from here on. -/
theorem st_row_ne (E : Ob) {r r' : Nat} (c : Nat) (v : Int32) (h : r' ≠ r) : st E r c v r' = E r' := by
  unfold st
  have : Nat.beq r' r = false := by
    cases hb : Nat.beq r' r with
    | false => rfl
    | true => exact absurd (Nat.eq_of_beq_eq_true hb) h
  rw [this]; rfl
theorem st_row_eq (E : Ob) (r c : Nat) (v : Int32) : st E r c v r = upd (E r) c v := by
  unfold st
  rw [show Nat.beq r r = true from Nat.beq_refl r]; rfl
theorem upR_ne (E : Ob) {r r' : Nat} (f : Nat → Int32) (h : r' ≠ r) : upR E r f r' = E r' := by
  unfold upR
  have : Nat.beq r' r = false := by
    cases hb : Nat.beq r' r with
    | false => rfl
    | true => exact absurd (Nat.eq_of_beq_eq_true hb) h
  rw [this]; rfl
theorem upR_eq (E : Ob) (r : Nat) (f : Nat → Int32) : upR E r f r = f := by
  unfold upR
  rw [show Nat.beq r r = true from Nat.beq_refl r]; rfl
theorem upd_eq (f : Nat → Int32) (k : Nat) (v : Int32) : upd f k v k = v := if_pos rfl
theorem upd_ne (f : Nat → Int32) {k j : Nat} (v : Int32) (h : j ≠ k) : upd f k v j = f j := if_neg h
theorem st_get (E : Ob) (r c : Nat) (v : Int32) (r' c' : Nat) : st E r c v r' c' = if r' = r ∧ c' = c then v else E r' c' := by
  by_cases h : r' = r
  · subst h
    rw [st_row_eq]
    by_cases h2 : c' = c
    · subst h2; rw [upd_eq, if_pos ⟨rfl, rfl⟩]
    · rw [upd_ne _ _ h2, if_neg (fun z => h2 z.2)]
  · rw [st_row_ne _ _ _ h, if_neg (fun z => h z.1)]
theorem upR_get (E : Ob) (r : Nat) (f : Nat → Int32) (r' c' : Nat) : upR E r f r' c' = if r' = r then f c' else E r' c' := by
  by_cases h : r' = r
  · subst h; rw [upR_eq, if_pos rfl]
  · rw [upR_ne _ _ h, if_neg h]
/-- an int is k, for some k below n; or it isn't -/
theorem is_or (x : Int32) (n : Nat) (hn : n < 2 ^ 31) : (∃ k, k < n ∧ x = nI k) ∨ (x.toInt < 0 ∨ (n : Int) ≤ x.toInt) := by
  by_cases h0 : x < 0
  · right; left
    rw [Int32.lt_iff_toInt_lt] at h0
    exact h0
  · obtain ⟨j, hj, rfl⟩ := nI_of h0
    by_cases h : j < n
    · left; exact ⟨j, h, rfl⟩
    · right; right
      rw [nI_toInt hj]
      omega
theorem ti0 : (0 : Int32).toInt = 0 := by decide
theorem grd_t {α : Type} {b : Bool} (h : b = true) (k : Option α) : grd b k = k := by rw [h]; rfl
theorem inb_nI {k n : Nat} (h : k < n) (hn : n < 2 ^ 31) : inb (nI k) n = true := by
  unfold inb
  have h1 : ¬ nI k < 0 := nI_pos (by omega)
  have h2 : Nat.ble n (nI k).toNatClampNeg = false := by
    rw [nI_clamp (by omega)]
    cases hb : Nat.ble n k with
    | false => rfl
    | true => exact absurd (Nat.le_of_ble_eq_true hb) (by omega)
  rw [h2]
  simp [h1]
theorem cl {k : Nat} (h : k < 2 ^ 31) : Int32.toNatClampNeg (nI k) = k := nI_clamp h
theorem pw_isWithin (x a b : Int32) : m_X5_isWithin x a b = some (if a.toInt ≤ x.toInt ∧ x.toInt ≤ b.toInt then 1 else 0) := by
  unfold m_X5_isWithin
  simp only [Int32.lt_iff_toInt_lt]
  by_cases h1 : x.toInt < a.toInt
  · rw [if_pos h1, if_neg (by omega)]
  · rw [if_neg h1]
    by_cases h2 : b.toInt < x.toInt
    · rw [if_pos h2, if_neg (by omega)]
    · rw [if_neg h2, if_pos (by omega)]
theorem pw_in (v lo hi : Int64) : m_X6_in v lo hi = some (if lo.toInt ≤ v.toInt ∧ v.toInt ≤ hi.toInt then 1 else 0) := by
  unfold m_X6_in
  simp only [lg_cmp_lt, lg_cmp_gt, Int64.lt_iff_toInt_lt]
  by_cases h1 : v.toInt < lo.toInt
  · rw [if_pos h1, if_neg (by omega)]
  · rw [if_neg h1]
    by_cases h2 : hi.toInt < v.toInt
    · rw [if_pos h2, if_neg (by omega)]
    · rw [if_neg h2, if_pos (by omega)]
theorem bnd_s {α β : Type} (x : α) (k : α → Option β) : (some x).bind k = k x := rfl
theorem if_bi {α : Type} (P : Prop) [Decidable P] (a b : α) : (if (if P then (1 : Int32) else 0) = 0 then a else b) = if P then b else a := by
  by_cases h : P
  · rw [if_pos h, if_pos h, if_neg (by decide)]
  · rw [if_neg h, if_neg h, if_pos rfl]
theorem bz_bi (P : Prop) [Decidable P] : bz (if P then (1 : Int32) else 0) = true := by
  by_cases h : P
  · rw [if_pos h]; decide
  · rw [if_neg h]; decide
theorem pw_isThing (x : Int32) : m_X5_isThing x = some (if 0 ≤ x.toInt ∧ x.toInt < 5 then 1 else 0) := by
  unfold m_X5_isThing
  simp only [Int32.lt_iff_toInt_lt, Int32.le_iff_toInt_le, ti0, show (5 : Int32).toInt = 5 by decide]
  by_cases h1 : x.toInt < 0
  · rw [if_pos h1, if_neg (by omega)]
  · rw [if_neg h1]
    by_cases h2 : 5 ≤ x.toInt
    · rw [if_pos h2, if_neg (by omega)]
    · rw [if_neg h2, if_pos (by omega)]
theorem pr_isThing (x : Int32) : m_X6_isThing x = some (if 0 ≤ x.toInt ∧ x.toInt < 5 then 1 else 0) := by
  unfold m_X6_isThing
  simp only [pw_in, bnd_s, bz_bi, grd_t, Int32.toInt_toInt64, show (0 : Int64).toInt = 0 by decide, show (4 : Int64).toInt = 4 by decide]
  congr 1
  by_cases h : 0 ≤ x.toInt ∧ x.toInt ≤ 4
  · rw [if_pos h, if_pos (by omega)]
  · rw [if_neg h, if_neg (by omega)]
