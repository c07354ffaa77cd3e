/-! PURE: the small methods, in numbers -/
theorem if1 {α : Type} (a b : α) : (if (1 : Int32) = 0 then a else b) = b := if_neg (by decide)
theorem if0 {α : Type} (a b : α) : (if (0 : Int32) = 0 then a else b) = a := if_pos rfl
theorem rem_nI {a b : Nat} (ha : a < 2 ^ 31) (hb : 0 < b) (hb2 : b < 2 ^ 31) : rem (nI a) (nI b) = nI (a % b) := pk_rem ha hb hb2
theorem ti_nI {a : Nat} (h : a < 2 ^ 31) : (nI a).toInt = a := nI_toInt h
theorem ti_sub {a b : Nat} (ha : a < 2 ^ 30) (hb : b < 2 ^ 30) : (nI a - nI b).toInt = (a : Int) - b := by
  rw [Int32.toInt_sub, nI_toInt (by omega), nI_toInt (by omega), Int.bmod_eq_of_le (by omega) (by omega)]
theorem nI_subN {a b : Nat} (h : b ≤ a) (ha : a < 2 ^ 30) : nI a - nI b = nI (a - b) := by
  apply Int32.toInt_inj.mp
  rw [ti_sub ha (by omega), nI_toInt (by omega)]
  omega
theorem nI_mulN {a b : Nat} : nI a * nI b = nI (a * b) := (Int32.ofNat_mul a b).symm
/-- two numbers of which one is an index below n, or none is -/
theorem hasPlace_y {w : Nat → Nat} {v : Ob} (hV : WV w) (hC : WC w v) {k : Nat} (hk : k < w 0) : m_X4_hasPlace v (nI k) = some 1 := by
  have h7 := hV.1
  unfold m_X4_hasPlace
  rw [hC.1, if_neg (nI_pos (by omega)), if_neg (nI_ge hk (by omega)), if_neg (by rw [show (7 : Int32) = nI 7 from rfl]; exact nI_ge (by omega) (by omega))]
theorem hasPlace_n {w : Nat → Nat} {v : Ob} (hV : WV w) (hC : WC w v) {x : Int32} (h : x.toInt < 0 ∨ (w 0 : Int) ≤ x.toInt) : m_X4_hasPlace v x = some 0 := by
  have h7 := hV.1
  unfold m_X4_hasPlace
  rw [hC.1]
  by_cases h0 : x < 0
  · rw [if_pos h0]
  · rw [if_neg h0, if_pos]
    rw [Int32.le_iff_toInt_le, nI_toInt (by omega)]
    rw [Int32.lt_iff_toInt_lt, ti0] at h0
    omega
theorem hasRoad_y {w : Nat → Nat} {v : Ob} (hV : WV w) (hC : WC w v) {k : Nat} (hk : k < w 1) : m_X4_hasRoad v (nI k) = some 1 := by
  have h7 := hV.2.1
  unfold m_X4_hasRoad
  rw [hC.2.1, if_neg (nI_pos (by omega)), if_neg (nI_ge hk (by omega)), if_neg (by rw [show (9 : Int32) = nI 9 from rfl]; exact nI_ge (by omega) (by omega))]
theorem hasRoad_n {w : Nat → Nat} {v : Ob} (hV : WV w) (hC : WC w v) {x : Int32} (h : x.toInt < 0 ∨ (w 1 : Int) ≤ x.toInt) : m_X4_hasRoad v x = some 0 := by
  have h7 := hV.2.1
  unfold m_X4_hasRoad
  rw [hC.2.1]
  by_cases h0 : x < 0
  · rw [if_pos h0]
  · rw [if_neg h0, if_pos]
    rw [Int32.le_iff_toInt_le, nI_toInt (by omega)]
    rw [Int32.lt_iff_toInt_lt, ti0] at h0
    omega
theorem hasHost_y {w : Nat → Nat} {v : Ob} (hV : WV w) (hC : WC w v) {k : Nat} (hk : k < w 2) : m_X4_hasHost v (nI k) = some 1 := by
  have h7 := hV.2.2.1
  unfold m_X4_hasHost
  rw [hC.2.2.1, if_neg (nI_pos (by omega)), if_neg (nI_ge hk (by omega)), if_neg (by rw [show (6 : Int32) = nI 6 from rfl]; exact nI_ge (by omega) (by omega))]
theorem hasHost_n {w : Nat → Nat} {v : Ob} (hV : WV w) (hC : WC w v) {x : Int32} (h : x.toInt < 0 ∨ (w 2 : Int) ≤ x.toInt) : m_X4_hasHost v x = some 0 := by
  have h7 := hV.2.2.1
  unfold m_X4_hasHost
  rw [hC.2.2.1]
  by_cases h0 : x < 0
  · rw [if_pos h0]
  · rw [if_neg h0, if_pos]
    rw [Int32.le_iff_toInt_le, nI_toInt (by omega)]
    rw [Int32.lt_iff_toInt_lt, ti0] at h0
    omega
/-- the reference's own: in 0 .. n - 1 -/
theorem inN_y {n k : Nat} (hk : k < n) (hn : n < 2 ^ 30) : m_X6_in (Int32.toInt64 (nI k)) 0 (Int32.toInt64 (nI n - 1)) = some 1 := by
  rw [pw_in, if_pos]
  rw [Int32.toInt_toInt64, Int32.toInt_toInt64, nI_toInt (by omega), show (1 : Int32) = nI 1 from rfl, ti_sub hn (by omega), show (0 : Int64).toInt = 0 by decide]
  omega
theorem inN_n {n : Nat} {x : Int32} (h : x.toInt < 0 ∨ (n : Int) ≤ x.toInt) (hn : n < 2 ^ 30) : m_X6_in (Int32.toInt64 x) 0 (Int32.toInt64 (nI n - 1)) = some 0 := by
  rw [pw_in, if_neg]
  rw [Int32.toInt_toInt64, Int32.toInt_toInt64, show (1 : Int32) = nI 1 from rfl, ti_sub hn (by omega), show (0 : Int64).toInt = 0 by decide]
  omega
theorem c0 : Int32.toNatClampNeg 0 = 0 := by decide
theorem c1 : Int32.toNatClampNeg 1 = 1 := by decide
theorem c2 : Int32.toNatClampNeg 2 = 2 := by decide
theorem c3 : Int32.toNatClampNeg 3 = 3 := by decide
theorem bz1 : bz 1 = true := by decide
theorem bz0 : bz 0 = true := by decide
theorem isPlace_y {w : Nat → Nat} {v : Ob} (hV : WV w) (hM : WM w (v 1)) {k : Nat} (hk : k < w 0) : m_X6_isPlace v (nI k) = some 1 := by
  have h7 := hV.1
  unfold m_X6_isPlace
  rw [c0, hM.1, inN_y hk (by omega), bnd_s, grd_t bz1]
theorem isPlace_n {w : Nat → Nat} {v : Ob} (hV : WV w) (hM : WM w (v 1)) {x : Int32} (h : x.toInt < 0 ∨ (w 0 : Int) ≤ x.toInt) : m_X6_isPlace v x = some 0 := by
  have h7 := hV.1
  unfold m_X6_isPlace
  rw [c0, hM.1, inN_n h (by omega), bnd_s, grd_t bz0]
theorem isRoad_y {w : Nat → Nat} {v : Ob} (hV : WV w) (hM : WM w (v 1)) {k : Nat} (hk : k < w 1) : m_X6_isRoad v (nI k) = some 1 := by
  have h7 := hV.2.1
  unfold m_X6_isRoad
  rw [c1, hM.2.1, inN_y hk (by omega), bnd_s, grd_t bz1]
theorem isRoad_n {w : Nat → Nat} {v : Ob} (hV : WV w) (hM : WM w (v 1)) {x : Int32} (h : x.toInt < 0 ∨ (w 1 : Int) ≤ x.toInt) : m_X6_isRoad v x = some 0 := by
  have h7 := hV.2.1
  unfold m_X6_isRoad
  rw [c1, hM.2.1, inN_n h (by omega), bnd_s, grd_t bz0]
theorem isHost_y {w : Nat → Nat} {v : Ob} (hV : WV w) (hM : WM w (v 1)) {k : Nat} (hk : k < w 2) : m_X6_isHost v (nI k) = some 1 := by
  have h7 := hV.2.2.1
  unfold m_X6_isHost
  rw [c2, hM.2.2.1, inN_y hk (by omega), bnd_s, grd_t bz1]
theorem isHost_n {w : Nat → Nat} {v : Ob} (hV : WV w) (hM : WM w (v 1)) {x : Int32} (h : x.toInt < 0 ∨ (w 2 : Int) ≤ x.toInt) : m_X6_isHost v x = some 0 := by
  have h7 := hV.2.2.1
  unfold m_X6_isHost
  rw [c2, hM.2.2.1, inN_n h (by omega), bnd_s, grd_t bz0]
theorem lionAt_y {w : Nat → Nat} {v : Ob} (hV : WV w) (hC : WC w v) {k : Nat} (hk : k < w 0) : m_X4_lionAt v (nI k) = some (nI (w (4 + k))) := by
  have h7 := hV.1
  unfold m_X4_lionAt
  rw [hasPlace_y hV hC hk, bnd_s, if1, grd_t (inb_nI (by omega) (by omega)), cl (by omega), (hC.2.2.2.2.1 k hk).1]
theorem gateFrom_y {w : Nat → Nat} {v : Ob} (hV : WV w) (hC : WC w v) {k : Nat} (hk : k < w 0) : m_X4_gateFromAt v (nI k) = some (gI (w (11 + k))) := by
  have h7 := hV.1
  unfold m_X4_gateFromAt
  rw [hasPlace_y hV hC hk, bnd_s, if1, grd_t (inb_nI (by omega) (by omega)), cl (by omega), (hC.2.2.2.2.1 k hk).2.1]
theorem gateHours_y {w : Nat → Nat} {v : Ob} (hV : WV w) (hC : WC w v) {k : Nat} (hk : k < w 0) : m_X4_gateHoursAt v (nI k) = some (nI (w (18 + k))) := by
  have h7 := hV.1
  unfold m_X4_gateHoursAt
  rw [hasPlace_y hV hC hk, bnd_s, if1, grd_t (inb_nI (by omega) (by omega)), cl (by omega), (hC.2.2.2.2.1 k hk).2.2]
theorem roadStart_y {w : Nat → Nat} {v : Ob} (hV : WV w) (hC : WC w v) {k : Nat} (hk : k < w 1) : m_X4_roadStart v (nI k) = some (nI (w (25 + k))) := by
  have h7 := hV.2.1
  unfold m_X4_roadStart
  rw [hasRoad_y hV hC hk, bnd_s, if1, grd_t (inb_nI (by omega) (by omega)), cl (by omega), (hC.2.2.2.2.2.1 k hk).1]
theorem roadEnd_y {w : Nat → Nat} {v : Ob} (hV : WV w) (hC : WC w v) {k : Nat} (hk : k < w 1) : m_X4_roadEnd v (nI k) = some (nI (w (34 + k))) := by
  have h7 := hV.2.1
  unfold m_X4_roadEnd
  rw [hasRoad_y hV hC hk, bnd_s, if1, grd_t (inb_nI (by omega) (by omega)), cl (by omega), (hC.2.2.2.2.2.1 k hk).2.1]
theorem roadHours_y {w : Nat → Nat} {v : Ob} (hV : WV w) (hC : WC w v) {k : Nat} (hk : k < w 1) : m_X4_roadHours v (nI k) = some (nI (w (43 + k))) := by
  have h7 := hV.2.1
  unfold m_X4_roadHours
  rw [hasRoad_y hV hC hk, bnd_s, if1, grd_t (inb_nI (by omega) (by omega)), cl (by omega), (hC.2.2.2.2.2.1 k hk).2.2]
theorem hostPlace_y {w : Nat → Nat} {v : Ob} (hV : WV w) (hC : WC w v) {k : Nat} (hk : k < w 2) : m_X4_hostPlace v (nI k) = some (nI (w (52 + k))) := by
  have h7 := hV.2.2.1
  unfold m_X4_hostPlace
  rw [hasHost_y hV hC hk, bnd_s, if1, grd_t (inb_nI (by omega) (by omega)), cl (by omega), (hC.2.2.2.2.2.2 k hk).1]
theorem hostGives_y {w : Nat → Nat} {v : Ob} (hV : WV w) (hC : WC w v) {k : Nat} (hk : k < w 2) : m_X4_hostGives v (nI k) = some (nI (w (58 + k))) := by
  have h7 := hV.2.2.1
  unfold m_X4_hostGives
  rw [hasHost_y hV hC hk, bnd_s, if1, grd_t (inb_nI (by omega) (by omega)), cl (by omega), (hC.2.2.2.2.2.2 k hk).2.1]
theorem hostAsks_y {w : Nat → Nat} {v : Ob} (hV : WV w) (hC : WC w v) {k : Nat} (hk : k < w 2) : m_X4_hostAsks v (nI k) = some (nI (w (64 + k))) := by
  have h7 := hV.2.2.1
  unfold m_X4_hostAsks
  rw [hasHost_y hV hC hk, bnd_s, if1, grd_t (inb_nI (by omega) (by omega)), cl (by omega), (hC.2.2.2.2.2.2 k hk).2.2]
