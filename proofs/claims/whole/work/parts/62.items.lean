/-! PURE: the items of a tale, by both readers -/
def updN (w : Nat → Nat) (k v : Nat) : Nat → Nat := fun j => if j = k then v else w j
theorem updN_eq (w : Nat → Nat) (k v : Nat) : updN w k v k = v := if_pos rfl
theorem updN_ne (w : Nat → Nat) {k j : Nat} (v : Nat) (h : j ≠ k) : updN w k v j = w j := if_neg h
def PL (x : Nat → Nat) (n i : Nat) (vR vM : Ob) : Prop := vR 0 2 = nI n ∧ vR 0 3 = nI i ∧ vM 0 6 = nI n ∧ vM 0 12 = nI i ∧ TR n x (vM 6) ∧ i ≤ n
/-- the tale that is being read, as the reference has it -/
def RW (w : Nat → Nat) (t : Nat → Int32) : Prop := t 0 = nI (w 0) ∧ t 1 = nI (w 1) ∧ t 2 = nI (w 2) ∧ t 3 = nI (w 3) ∧ (∀ p, p < 7 → t (4 + p) = nI (w (4 + p)) ∧ t (11 + p) = gI (w (11 + p)) ∧ t (18 + p) = nI (w (18 + p))) ∧ (∀ r, r < w 1 → t (25 + r) = nI (w (25 + r)) ∧ t (34 + r) = nI (w (34 + r)) ∧ t (43 + r) = nI (w (43 + r))) ∧ (∀ h, h < w 2 → t (52 + h) = nI (w (52 + h)) ∧ t (58 + h) = nI (w (58 + h)) ∧ t (64 + h) = nI (w (64 + h))) ∧ ∀ p, p < 7 → w 0 ≤ p → w (4 + p) = 9 ∧ w (11 + p) = 24 ∧ w (18 + p) = 24
def RLx (x : Nat → Nat) (n i f : Nat) (w : Nat → Nat) (vR vD vM : Ob) : Prop := PL x n i vR vM ∧ f ≤ 1 ∧ vR 0 7 = nI f ∧ vM 0 16 = nI f ∧ WV w ∧ WC w vD ∧ RW w (vM 2)
def NB (x : Nat → Nat) (n i : Nat) : Prop := i = n ∨ isD (x i) = false
/-- both fail, at one byte -/
def BF (vM : Ob) (c : Option (Int32 × Ob)) (m : Option (Int32 × Ob)) : Prop := ∃ (vR' vM' : Ob) (b : Nat), c = some (0, vR') ∧ m = some (0, vM') ∧ vR' 0 4 = nI b ∧ vM' 0 13 = nI b ∧ b ≤ 200 ∧ FM vM vM'
/-- both read a number v, up to e -/
def BN (x : Nat → Nat) (n i : Nat) (vR vM : Ob) (c : Option (Int32 × Ob)) (m : Option (Int32 × Ob)) (v e : Nat) : Prop := ∃ (vR' vM' : Ob), c = some (1, vR') ∧ m = some (1, vM') ∧ vR' 0 6 = nI v ∧ vM' 0 15 = nI v ∧ v ≤ 99 ∧ PL x n e vR' vM' ∧ vM' 2 = vM 2 ∧ vR' 0 7 = vR 0 7 ∧ vM' 0 16 = vM 0 16 ∧ FM vM vM' ∧ i + 1 ≤ e ∧ (NB x n i → i + 2 ≤ e) ∧ NB x n e ∧ ∃ b, b ≤ 200 ∧ vR' 0 4 = nI b ∧ vM' 0 13 = nI b
/-- a number, or none -/
theorem ntok {x : Nat → Nat} {n i : Nat} {vt : Nat → Int32} {vR vM : Ob} (hV : TV n x) (hT : TR n x vt) (hP : PL x n i vR vM) :
    (∃ (vR' vM' : Ob) (b : Nat), m_X1_readToken vR vt = some vR' ∧ m_X6_next vM = some vM' ∧ ¬ vR' 0 5 = 2 ∧ ¬ vM' 0 14 = 2 ∧ vR' 0 4 = nI b ∧ vM' 0 13 = nI b ∧ b ≤ 200 ∧ FM vM vM') ∨
    ∃ (vR' vM' : Ob) (b v e : Nat), m_X1_readToken vR vt = some vR' ∧ m_X6_next vM = some vM' ∧ vR' 0 5 = 2 ∧ vM' 0 14 = 2 ∧ vR' 0 4 = nI b ∧ vM' 0 13 = nI b ∧ b ≤ 200 ∧ vR' 0 6 = nI v ∧ vM' 0 15 = nI v ∧ v ≤ 99 ∧ PL x n e vR' vM' ∧ vM' 2 = vM 2 ∧ vR' 0 7 = vR 0 7 ∧ vM' 0 16 = vM 0 16 ∧ FM vM vM' ∧ i + 1 ≤ e ∧ (NB x n i → i + 2 ≤ e) ∧ NB x n e := by
  obtain ⟨p1, p2, p3, p4, p5, p6⟩ := hP
  have h200 := hV.1
  obtain ⟨vR', vM', b, e, k, v, a1, a2, ⟨r1, r2, r3, r4, r5⟩, a4, a5, ⟨m1, m2, m3⟩, ⟨i1, i2, i3⟩, hk⟩ := tok hV hT p5 p6 p1 p2 p3 p4
  have tr : TR n x (vM' 6) := by rw [a4.1 6 (by omega) (by omega)]; exact p5
  rcases hk with ⟨rfl, h14, -⟩ | ⟨rfl, h14, -⟩ | ⟨rfl, h14, ha, hu, hv, hbn, hd, he, hnb⟩ | ⟨rfl, h14, -⟩ | ⟨rfl, h14, -⟩
  · left; exact ⟨vR', vM', b, a1, a2, by rw [r4]; decide, by rw [h14]; decide, r3, m3, by omega, a4⟩
  · left; exact ⟨vR', vM', b, a1, a2, by rw [r4]; decide, by rw [h14]; decide, r3, m3, by omega, a4⟩
  · right
    refine ⟨vR', vM', b, v, e, a1, a2, r4, h14, r3, m3, by omega, ha, hu, hv, ⟨r1, r2, by rw [a4.2 6 (by omega)]; exact p3, m2, tr, i3⟩, a5, r5, m1, a4, by omega, fun q => ?_, hnb⟩
    rcases q with q | q
    · omega
    · have : b ≠ i := fun z => by rw [z, q] at hd; cases hd
      omega
  · left; exact ⟨vR', vM', b, a1, a2, by rw [r4]; decide, by rw [h14]; decide, r3, m3, by omega, a4⟩
  · left
    refine ⟨vR', vM', b, a1, a2, by rw [r4]; decide, ?_, r3, m3, by omega, a4⟩
    rcases h14 with h | h
    · rw [h]; decide
    · rw [h.1]; decide
theorem i64N {a : Nat} (h : a < 2 ^ 31) : (Int32.toInt64 (nI a)).toInt = (a : Int) := by rw [Int32.toInt_toInt64, nI_toInt h]
theorem rNum {x : Nat → Nat} {n i : Nat} {vt : Nat → Int32} {vR vM : Ob} (hV : TV n x) (hT : TR n x vt) (hP : PL x n i vR vM) {lo hi : Nat} (hl : lo ≤ 99) (hh : hi ≤ 99) :
    BF vM (m_X1_readsNumber vR vt (nI lo) (nI hi)) (m_X6_number vM (nI lo) (nI hi)) ∨ ∃ v e, lo ≤ v ∧ v ≤ hi ∧ BN x n i vR vM (m_X1_readsNumber vR vt (nI lo) (nI hi)) (m_X6_number vM (nI lo) (nI hi)) v e := by
  unfold m_X1_readsNumber m_X6_number
  rcases ntok hV hT hP with ⟨vR', vM', b, a1, a2, a3, a4, a5, a6, a7, a8⟩ | ⟨vR', vM', b, v, e, a1, a2, a3, a4, a5, a6, a7, a8, a9, a10, a11, a12, a13, a14, a15, a16, a17, a18⟩
  · left
    rw [a1, a2, bnd_s, bnd_s, if_neg a3, if_neg a4]
    exact ⟨vR', vM', b, rfl, rfl, a5, a6, a7, a8⟩
  · rw [a1, a2, bnd_s, bnd_s, if_pos a3, if_pos a4, a8, a9, pw_isWithin, pw_in, bnd_s, bnd_s, if_bi, if_bi, i64N (by omega), i64N (by omega), i64N (by omega), nI_toInt (by omega), nI_toInt (by omega), nI_toInt (by omega)]
    by_cases hr : lo ≤ v ∧ v ≤ hi
    · right
      rw [if_pos (by omega), if_pos (by omega)]
      exact ⟨v, e, hr.1, hr.2, vR', vM', rfl, rfl, a8, a9, a10, a11, a12, a13, a14, a15, a16, a17, a18, b, a7, a5, a6⟩
    · left
      rw [if_neg (by omega), if_neg (by omega)]
      exact ⟨vR', vM', b, rfl, rfl, a5, a6, a7, a15⟩
theorem inP {lo v m : Nat} (hl : lo ≤ 99) (hv : v ≤ 99) (hm : m ≤ 7) : m_X6_in (Int32.toInt64 (nI v)) (Int32.toInt64 (nI lo)) (Int32.toInt64 (nI m - 1)) = some (if lo ≤ v ∧ v < m then 1 else 0) := by
  rw [pw_in, i64N (by omega), i64N (by omega), Int32.toInt_toInt64, show (1 : Int32) = nI 1 from rfl, ti_sub (by omega) (by omega)]
  congr 1
  by_cases h : lo ≤ v ∧ v < m
  · rw [if_pos (by omega), if_pos h]
  · rw [if_neg (by omega), if_neg h]
theorem inP0 {v m : Nat} (hv : v ≤ 99) (hm : m ≤ 7) : m_X6_in (Int32.toInt64 (nI v)) (Int32.toInt64 0) (Int32.toInt64 (nI m - 1)) = some (if 0 ≤ v ∧ v < m then 1 else 0) := inP (lo := 0) (by omega) hv hm
theorem inP1 {v m : Nat} (hv : v ≤ 99) (hm : m ≤ 7) : m_X6_in (Int32.toInt64 (nI v)) (Int32.toInt64 1) (Int32.toInt64 (nI m - 1)) = some (if 1 ≤ v ∧ v < m then 1 else 0) := inP (lo := 1) (by omega) hv hm
/-- a place -/
theorem rPlace {x : Nat → Nat} {n i : Nat} {vt : Nat → Int32} {vR vD vM : Ob} {w : Nat → Nat} (hV : TV n x) (hT : TR n x vt) (hP : PL x n i vR vM) (hW : WV w) (hC : WC w vD) :
    BF vM (m_X1_readsPlace vR vD vt) (m_X6_number vM 0 (nI (w 0) - 1)) ∨ ∃ v e, v < w 0 ∧ BN x n i vR vM (m_X1_readsPlace vR vD vt) (m_X6_number vM 0 (nI (w 0) - 1)) v e := by
  have h7 := hW.1
  unfold m_X1_readsPlace m_X6_number
  rcases ntok hV hT hP with ⟨vR', vM', b, a1, a2, a3, a4, a5, a6, a7, a8⟩ | ⟨vR', vM', b, v, e, a1, a2, a3, a4, a5, a6, a7, a8, a9, a10, a11, a12, a13, a14, a15, a16, a17, a18⟩
  · left
    rw [a1, a2, bnd_s, bnd_s, if_neg a3, if_neg a4]
    exact ⟨vR', vM', b, rfl, rfl, a5, a6, a7, a8⟩
  · rw [a1, a2, bnd_s, bnd_s, if_pos a3, if_pos a4, a8, a9, inP0 a10 h7, bnd_s]
    by_cases hr : v < w 0
    · right
      rw [hasPlace_y hW hC hr, bnd_s, if_pos (show 0 ≤ v ∧ v < w 0 from ⟨by omega, hr⟩), if1, if1]
      exact ⟨v, e, hr, vR', vM', rfl, rfl, a8, a9, a10, a11, a12, a13, a14, a15, a16, a17, a18, b, a7, a5, a6⟩
    · left
      rw [hasPlace_n hW hC (by rw [nI_toInt (by omega)]; omega), bnd_s, if_neg (show ¬ (0 ≤ v ∧ v < w 0) from fun z => hr z.2), if0, if0]
      exact ⟨vR', vM', b, rfl, rfl, a5, a6, a7, a15⟩
/-- a place that isn't home -/
theorem rPlace1 {x : Nat → Nat} {n i : Nat} {vt : Nat → Int32} {vR vD vM : Ob} {w : Nat → Nat} (hV : TV n x) (hT : TR n x vt) (hP : PL x n i vR vM) (hW : WV w) (hC : WC w vD) :
    BF vM (m_X1_readsPlace vR vD vt) (m_X6_number vM 1 (nI (w 0) - 1)) ∨ (∃ (vR' vM' : Ob) (b : Nat), m_X1_readsPlace vR vD vt = some (1, vR') ∧ vR' 0 6 = 0 ∧ m_X6_number vM 1 (nI (w 0) - 1) = some (0, vM') ∧ vR' 0 4 = nI b ∧ vM' 0 13 = nI b ∧ b ≤ 200 ∧ FM vM vM') ∨ ∃ v e, v < w 0 ∧ v ≠ 0 ∧ ∃ b, b ≤ 200 ∧ ∃ (vR' vM' : Ob), vR' 0 4 = nI b ∧ vM' 0 13 = nI b ∧ m_X1_readsPlace vR vD vt = some (1, vR') ∧ m_X6_number vM 1 (nI (w 0) - 1) = some (1, vM') ∧ vR' 0 6 = nI v ∧ vM' 0 15 = nI v ∧ v ≤ 99 ∧ PL x n e vR' vM' ∧ vM' 2 = vM 2 ∧ vR' 0 7 = vR 0 7 ∧ vM' 0 16 = vM 0 16 ∧ FM vM vM' ∧ i + 1 ≤ e ∧ (NB x n i → i + 2 ≤ e) ∧ NB x n e := by
  have h7 := hW.1
  unfold m_X1_readsPlace m_X6_number
  rcases ntok hV hT hP with ⟨vR', vM', b, a1, a2, a3, a4, a5, a6, a7, a8⟩ | ⟨vR', vM', b, v, e, a1, a2, a3, a4, a5, a6, a7, a8, a9, a10, a11, a12, a13, a14, a15, a16, a17, a18⟩
  · left
    rw [a1, a2, bnd_s, bnd_s, if_neg a3, if_neg a4]
    exact ⟨vR', vM', b, rfl, rfl, a5, a6, a7, a8⟩
  · rw [a1, a2, bnd_s, bnd_s, if_pos a3, if_pos a4, a8, a9, inP1 a10 h7, bnd_s]
    by_cases hr : v < w 0
    · right
      rw [hasPlace_y hW hC hr, bnd_s]
      by_cases h0 : v = 0
      · left
        rw [if_neg (show ¬ (1 ≤ v ∧ v < w 0) by omega), if1, if0]
        exact ⟨vR', vM', b, rfl, by rw [a8, h0]; rfl, rfl, a5, a6, a7, a15⟩
      · right
        rw [if_pos (show 1 ≤ v ∧ v < w 0 by omega), if1, if1]
        exact ⟨v, e, hr, h0, b, a7, vR', vM', a5, a6, rfl, rfl, a8, a9, a10, a11, a12, a13, a14, a15, a16, a17, a18⟩
    · left
      rw [hasPlace_n hW hC (by rw [nI_toInt (by omega)]; omega), bnd_s, if_neg (show ¬ (1 ≤ v ∧ v < w 0) from fun z => hr z.2), if0, if0]
      exact ⟨vR', vM', b, rfl, rfl, a5, a6, a7, a15⟩
theorem rStop {x : Nat → Nat} {n i : Nat} {vt : Nat → Int32} {vR vM : Ob} (hV : TV n x) (hT : TR n x vt) (hP : PL x n i vR vM) :
    BF vM (m_X1_readsStop vR vt) (m_X6_ends vM) ∨ ∃ (vR' vM' : Ob) (e : Nat), m_X1_readsStop vR vt = some (1, vR') ∧ m_X6_ends vM = some (1, vM') ∧ PL x n e vR' vM' ∧ vM' 2 = vM 2 ∧ vR' 0 7 = vR 0 7 ∧ vM' 0 16 = vM 0 16 ∧ FM vM vM' ∧ i + 1 ≤ e := by
  obtain ⟨p1, p2, p3, p4, p5, p6⟩ := hP
  have h200 := hV.1
  obtain ⟨vR', vM', b, e, k, v, a1, a2, ⟨r1, r2, r3, r4, r5⟩, a4, a5, ⟨m1, m2, m3⟩, ⟨i1, i2, i3⟩, hk⟩ := tok hV hT p5 p6 p1 p2 p3 p4
  have tr : TR n x (vM' 6) := by rw [a4.1 6 (by omega) (by omega)]; exact p5
  unfold m_X1_readsStop m_X6_ends
  rw [a1, a2, bnd_s, bnd_s, r4]
  have fail : ¬ nI k = 3 → ¬ vM' 0 14 = 3 → BF vM (if nI k = 3 then some (1, vR') else some (0, vR')) (if vM' 0 14 = 3 then some (1, vM') else some (0, vM')) := fun q q2 => by
    rw [if_neg q, if_neg q2]
    exact ⟨vR', vM', b, rfl, rfl, r3, m3, by omega, a4⟩
  rcases hk with ⟨rfl, h14, -⟩ | ⟨rfl, h14, -⟩ | ⟨rfl, h14, -⟩ | ⟨rfl, h14, hbe⟩ | ⟨rfl, h14, -⟩
  · left; exact fail (by decide) (by rw [h14]; decide)
  · left; exact fail (by decide) (by rw [h14]; decide)
  · left; exact fail (by decide) (by rw [h14]; decide)
  · right
    rw [if_pos (show nI 3 = 3 from rfl), if_pos h14]
    exact ⟨vR', vM', e, rfl, rfl, ⟨r1, r2, by rw [a4.2 6 (by omega)]; exact p3, m2, tr, i3⟩, a5, r5, m1, a4, by omega⟩
  · left
    refine fail (by decide) ?_
    rcases h14 with h | h
    · rw [h]; decide
    · rw [h.1]; decide
theorem takes_0 {vM V : Ob} {a b : Int32} {k : Nat} (hk : k < 70) (h : m_X6_number vM a b = some (0, V)) : m_X6_takes vM a b (nI k) = some (0, st V 2 k (V 2 k)) := by
  unfold m_X6_takes m_X6_takes_j31
  rw [h, bnd_s, if_pos rfl, grd_t (inb_nI hk (by omega)), grd_t (inb_nI hk (by omega)), grd_t (show bz (0 : Int32) = true by decide), cl (by omega)]
theorem takes_1 {vM V : Ob} {a b : Int32} {k : Nat} (hk : k < 70) (h : m_X6_number vM a b = some (1, V)) : m_X6_takes vM a b (nI k) = some (1, st V 2 k (V 0 15)) := by
  unfold m_X6_takes m_X6_takes_j31
  rw [h, bnd_s, if1, grd_t (inb_nI hk (by omega)), grd_t (show bz (1 : Int32) = true by decide), cl (by omega)]
/-- takes, when the number fails -/
theorem BF.takes {vM : Ob} {c m : Option (Int32 × Ob)} {a b : Int32} {k : Nat} (hk : k < 70) (hm : m = m_X6_number vM a b) (h : BF vM c m) : BF vM c (m_X6_takes vM a b (nI k)) := by
  obtain ⟨vR', vM', p, h1, h2, h3, h4, h5, h6⟩ := h
  exact ⟨vR', _, p, h1, takes_0 hk (hm.symm.trans h2), h3, h4, h5, h6.trans (FM.st2 _ _ _)⟩
/-- takes, when there is a number: it stands in the row -/
def BT (x : Nat → Nat) (n i : Nat) (vR vM : Ob) (c : Option (Int32 × Ob)) (m : Option (Int32 × Ob)) (k v e : Nat) : Prop := ∃ (vR' vM' : Ob), c = some (1, vR') ∧ m = some (1, vM') ∧ vR' 0 6 = nI v ∧ vM' 0 15 = nI v ∧ PL x n e vR' vM' ∧ vM' 2 = upd (vM 2) k (nI v) ∧ vR' 0 7 = vR 0 7 ∧ vM' 0 16 = vM 0 16 ∧ FM vM vM' ∧ i + 1 ≤ e ∧ (NB x n i → i + 2 ≤ e) ∧ NB x n e ∧ ∃ b, b ≤ 200 ∧ vR' 0 4 = nI b ∧ vM' 0 13 = nI b
theorem BN.takes {x : Nat → Nat} {n i v e : Nat} {vR vM : Ob} {c m : Option (Int32 × Ob)} {a b : Int32} {k : Nat} (hk : k < 70) (hm : m = m_X6_number vM a b) (h : BN x n i vR vM c m v e) : BT x n i vR vM c (m_X6_takes vM a b (nI k)) k v e := by
  obtain ⟨vR', vM', h1, h2, h3, h4, h5, h6, h7, h8, h9, h10, h11, h12, h13⟩ := h
  exact ⟨vR', _, h1, takes_1 hk (hm.symm.trans h2), h3, h4, h6, by rw [h4, st_row_eq, h7], h8, h9, h10.trans (FM.st2 _ _ _), h11, h12, h13⟩
theorem lions_cong {w w' : Nat → Nat} : ∀ {m : Nat}, (∀ p, p < m → w' (4 + p) = w (4 + p)) → lions w' m = lions w m
  | 0, _ => rfl
  | m + 1, h => by
    show lions w' m + _ = lions w m + _
    rw [lions_cong (fun p hp => h p (by omega)), h m (by omega)]
theorem lions_up {w : Nat → Nat} {q t : Nat} (h9 : w (4 + q) = 9) (ht : t ≠ 9) : ∀ {m : Nat}, lions (updN w (4 + q) t) m = lions w m + (if q < m then 1 else 0)
  | 0 => by rw [if_neg (by omega)]; rfl
  | m + 1 => by
    show lions (updN w (4 + q) t) m + (if updN w (4 + q) t (4 + m) = 9 then 0 else 1) = lions w m + (if w (4 + m) = 9 then 0 else 1) + _
    rw [lions_up h9 ht]
    by_cases hq : q = m
    · subst hq
      rw [updN_eq, if_neg ht, h9, if_neg (by omega), if_pos rfl, if_pos (by omega)]
    · rw [updN_ne _ _ (by omega)]
      by_cases h : q < m
      · rw [if_pos h, if_pos (show q < m + 1 by omega)]; omega
      · rw [if_neg h, if_neg (show ¬ q < m + 1 by omega)]; rfl
