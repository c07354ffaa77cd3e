/-! PURE: gates, roads, lions, hosts, in numbers -/
def sOpen (w : Nat → Nat) (p h : Nat) : Bool := decide (w (11 + p) = 24) || decide ((h + 24 - w (11 + p)) % 24 < w (18 + p))
def sFar (w : Nat → Nat) (r p : Nat) : Option Nat := if w (25 + r) = p then some (w (34 + r)) else if w (34 + r) = p then some (w (25 + r)) else none
def sEnt (w : Nat → Nat) (q h s : Nat) : Option Nat := if sOpen w q h = true then (if w (4 + q) = 9 then some s else if s.testBit (w (4 + q)) = true then some (s - 2 ^ w (4 + q)) else none) else none
def sGive (w : Nat → Nat) (h p s : Nat) : Option Nat := if w (52 + h) = p ∧ (w (64 + h) = 9 ∨ s.testBit (w (64 + h)) = true) ∧ s.testBit (w (58 + h)) = false then some (s + 2 ^ w (58 + h)) else none
/-- to where a walk of a road leads, and with what -/
def sWalk (w : Nat → Nat) (r p h s : Nat) : Option (Nat × Nat) := (sFar w r p).bind fun q => (sEnt w q h s).map fun s' => (q, s')
theorem if_nI {α : Type} {a b : Nat} (ha : a < 2 ^ 31) (hb : b < 2 ^ 31) (x y : α) : (if nI a = nI b then x else y) = if a = b then x else y := by
  by_cases h : a = b
  · subst h; rw [if_pos rfl, if_pos rfl]
  · rw [if_neg h, if_neg (fun z => h ((nI_eq ha hb).mp z))]
theorem fm_small : ∀ h, h < 24 → ∀ o, o < 24 → h < o → m_J9_floorMod_7cf53 (nI h - nI o) 24 = some (nI ((h + 24 - o) % 24)) := by decide +kernel
theorem xor24 {a : Nat} (h : a < 2 ^ 20) : ¬ (nI a ^^^ 24) < 0 := by
  rw [show (24 : Int32) = nI 24 from rfl, nx_xor]
  exact nI_pos (Nat.lt_of_lt_of_le (Nat.xor_lt_two_pow (n := 20) h (by omega)) (by omega))
theorem fm_nI {h o : Nat} (hh : h < 2 ^ 20) (ho : o < 24) : m_J9_floorMod_7cf53 (nI h - nI o) 24 = some (nI ((h + 24 - o) % 24)) := by
  by_cases hlt : h < o
  · exact fm_small h (by omega) o ho hlt
  · rw [pk_sub (by omega)]
    unfold m_J9_floorMod_7cf53
    rw [grd_t (by decide), if_pos, show (24 : Int32) = nI 24 from rfl, rem_nI (by omega) (by omega) (by omega)]
    · congr 2; omega
    · have := xor24 (a := h - o) (by omega)
      rw [Int32.le_iff_toInt_le]
      rw [Int32.lt_iff_toInt_lt] at this
      omega
theorem gI_ne {x : Nat} (h : x < 24) : gI x = nI x := if_neg (by omega)
theorem gI_24 : gI 24 = -9 := if_pos rfl
theorem nI_n9 {x : Nat} (h : x < 2 ^ 31) : ¬ nI x = -9 := by
  intro q
  have := congrArg Int32.toInt q
  rw [nI_toInt h, show (-9 : Int32).toInt = -9 by decide] at this
  omega
theorem isOpenC {w : Nat → Nat} {v : Ob} (hV : WV w) (hC : WC w v) {k h : Nat} (hk : k < w 0) (hh : h < 2 ^ 20) : m_X4_isOpen v (nI k) (nI h) = some (if sOpen w k h = true then 1 else 0) := by
  have h7 := hV.1
  obtain ⟨-, hg, h1, h24⟩ := hV.2.2.2.2.1 k hk
  unfold m_X4_isOpen
  rw [hasPlace_y hV hC hk, bnd_s, if1, grd_t (inb_nI (by omega) (by omega)), cl (by omega), (hC.2.2.2.2.1 k hk).2.1]
  by_cases hn : w (11 + k) = 24
  · rw [hn, gI_24, if_pos rfl, if_pos]
    simp [sOpen, hn]
  · have ho : w (11 + k) < 24 := by omega
    rw [gI_ne ho, if_neg (nI_n9 (by omega)), grd_t (inb_nI (by omega) (by omega)), fm_nI hh ho, bnd_s, grd_t (inb_nI (by omega) (by omega)), (hC.2.2.2.2.1 k hk).2.2]
    have hm : (h + 24 - w (11 + k)) % 24 < 24 := Nat.mod_lt _ (by omega)
    by_cases hc : (h + 24 - w (11 + k)) % 24 < w (18 + k)
    · rw [if_neg (nI_ge hc (by omega)), if_pos]
      simp [sOpen, hc]
    · rw [if_pos (nI_le (by omega) (by omega)), if_neg]
      simp [sOpen, hc, hn]
theorem rm_small : ∀ a, a < 24 → ∀ o, o < 24 → rem (nI a - nI o + 240) 24 = nI ((a + 24 - o) % 24) := by decide +kernel
theorem isOpenM {w : Nat → Nat} {v : Ob} (hV : WV w) (hM : WM w (v 1)) {k h : Nat} (hk : k < w 0) (hh : h < 24) : m_X6_isOpen v (nI k) (nI h) = some (if sOpen w k h = true then 1 else 0) := by
  have h7 := hV.1
  obtain ⟨-, hg, h1, h24⟩ := hV.2.2.2.2.1 k hk
  have e11 : (11 : Int32) + nI k = nI (11 + k) := nI_add 11 k
  have e18 : (18 : Int32) + nI k = nI (18 + k) := nI_add 18 k
  unfold m_X6_isOpen m_X6_isOpen_j44
  rw [e11, e18, grd_t (inb_nI (by omega) (by omega)), cl (by omega), cl (by omega), (hM.2.2.2.2.1 k hk).2.1]
  by_cases hn : w (11 + k) = 24
  · rw [hn, gI_24, if_pos rfl, if_pos]
    simp [sOpen, hn]
  · have ho : w (11 + k) < 24 := by omega
    rw [gI_ne ho, if_neg (nI_n9 (by omega)), grd_t (inb_nI (by omega) (by omega)), grd_t (inb_nI (by omega) (by omega)), (hM.2.2.2.2.1 k hk).2.2, rm_small h hh _ ho]
    have hm : (h + 24 - w (11 + k)) % 24 < 24 := Nat.mod_lt _ (by omega)
    by_cases hc : (h + 24 - w (11 + k)) % 24 < w (18 + k)
    · rw [if_neg (nI_ge hc (by omega)), if_pos]
      simp [sOpen, hc]
    · rw [if_pos (nI_le (by omega) (by omega)), if_neg]
      simp [sOpen, hc, hn]
theorem sOpen_day {w : Nat → Nat} {p h : Nat} (ho : w (11 + p) ≤ 24) : sOpen w p (h % 24) = sOpen w p h := by
  unfold sOpen
  by_cases hn : w (11 + p) = 24
  · simp [hn]
  · rw [show (h % 24 + 24 - w (11 + p)) % 24 = (h + 24 - w (11 + p)) % 24 by omega]
/-- which things: a set below 32, a thing below 5 -/
theorem hb_small : ∀ s, s < 32 → ∀ t, t < 5 → ((nI s >>> (nI t &&& 31)) &&& 1 = 1 ↔ s.testBit t = true) := by decide +kernel
theorem tk_small : ∀ s, s < 32 → ∀ t, t < 5 → s.testBit t = true → nI s &&& (((1 : Int32) <<< (nI t &&& 31)) ^^^ (-1)) = nI (s - 2 ^ t) := by decide +kernel
theorem gv_small : ∀ s, s < 32 → ∀ t, t < 5 → s.testBit t = false → nI s ||| ((1 : Int32) <<< (nI t &&& 31)) = nI (s + 2 ^ t) := by decide +kernel
theorem tk_lt : ∀ s, s < 32 → ∀ t, t < 5 → s.testBit t = true → s - 2 ^ t < 32 := by decide +kernel
theorem gv_lt : ∀ s, s < 32 → ∀ t, t < 5 → s.testBit t = false → s + 2 ^ t < 32 := by decide +kernel
theorem hasThingC {s t : Nat} (hs : s < 32) (ht : t < 5 ∨ t = 9) : m_X5_hasThing (nI s) (nI t) = some (if t = 9 ∨ s.testBit t = true then 1 else 0) := by
  unfold m_X5_hasThing m_X5_hasThing_j22
  rcases ht with ht | rfl
  · rw [if_neg (by rw [show (9 : Int32) = nI 9 from rfl, nI_eq (by omega) (by omega)]; omega), pw_isThing, bnd_s, if_bi, if_pos (by rw [nI_toInt (by omega)]; omega)]
    by_cases hb : s.testBit t = true
    · rw [if_pos ((hb_small s hs t ht).mpr hb), if_pos (Or.inr hb)]
    · rw [if_neg (fun z => hb ((hb_small s hs t ht).mp z)), if_neg (by simp [hb]; omega)]
  · rw [if_pos (show nI 9 = 9 from rfl), if_pos (Or.inl rfl)]
theorem holdsM {s t : Nat} (hs : s < 32) (ht : t < 5) : m_X6_holds (nI s) (nI t) = some (if s.testBit t = true then 1 else 0) := by
  unfold m_X6_holds
  by_cases hb : s.testBit t = true
  · rw [if_pos ((hb_small s hs t ht).mpr hb), if_pos hb]
  · rw [if_neg (fun z => hb ((hb_small s hs t ht).mp z)), if_neg hb]
theorem farEndC {w : Nat → Nat} {v : Ob} (hV : WV w) (hC : WC w v) {k p : Nat} (hk : k < w 1) (hp : p < 8) : m_X4_farEnd v (nI k) (nI p) = some (match sFar w k p with | some q => nI q | none => -9) := by
  have h7 := hV.1
  have h9 := hV.2.1
  obtain ⟨ha, hb, -, -, -⟩ := hV.2.2.2.2.2.2.1 k hk
  unfold m_X4_farEnd sFar
  rw [hasRoad_y hV hC hk, bnd_s, if1, grd_t (inb_nI (by omega) (by omega)), cl (by omega), (hC.2.2.2.2.2.1 k hk).1, (hC.2.2.2.2.2.1 k hk).2.1, if_nI (by omega) (by omega), if_nI (by omega) (by omega)]
  by_cases h1 : w (25 + k) = p
  · rw [if_pos h1, if_pos h1, grd_t (inb_nI (by omega) (by omega))]
  · rw [if_neg h1, if_neg h1, grd_t (inb_nI (by omega) (by omega))]
    by_cases h2 : w (34 + k) = p
    · rw [if_pos h2, if_pos h2, grd_t (inb_nI (by omega) (by omega))]
    · rw [if_neg h2, if_neg h2]
theorem otherEndM {w : Nat → Nat} {v : Ob} (hV : WV w) (hM : WM w (v 1)) {k p : Nat} (hk : k < w 1) (hp : p < 8) : m_X6_otherEnd v (nI k) (nI p) = some (match sFar w k p with | some q => nI q | none => -1) := by
  have h7 := hV.1
  have h9 := hV.2.1
  obtain ⟨ha, hb, -, -, -⟩ := hV.2.2.2.2.2.2.1 k hk
  have e25 : (25 : Int32) + nI k = nI (25 + k) := nI_add 25 k
  have e34 : (34 : Int32) + nI k = nI (34 + k) := nI_add 34 k
  unfold m_X6_otherEnd sFar
  rw [e25, e34, grd_t (inb_nI (by omega) (by omega)), cl (by omega), cl (by omega), (hM.2.2.2.2.2.1 k hk).1, (hM.2.2.2.2.2.1 k hk).2.1, if_nI (by omega) (by omega), if_nI (by omega) (by omega)]
  by_cases h1 : w (25 + k) = p
  · rw [if_pos h1, if_pos h1, grd_t (inb_nI (by omega) (by omega))]
  · rw [if_neg h1, if_neg h1, grd_t (inb_nI (by omega) (by omega))]
    by_cases h2 : w (34 + k) = p
    · rw [if_pos h2, if_pos h2, grd_t (inb_nI (by omega) (by omega))]
    · rw [if_neg h2, if_neg h2]
theorem sFar_lt {w : Nat → Nat} (hV : WV w) {k p q : Nat} (hk : k < w 1) (h : sFar w k p = some q) : q < w 0 := by
  obtain ⟨ha, hb, -, -, -⟩ := hV.2.2.2.2.2.2.1 k hk
  unfold sFar at h
  split at h
  · cases h; exact hb
  · split at h
    · cases h; exact ha
    · cases h
theorem letsInC {w : Nat → Nat} {v : Ob} (hV : WV w) (hC : WC w v) {q h s : Nat} (hq : q < w 0) (hh : h < 2 ^ 20) (hs : s < 32) : m_X4_letsIn v (nI q) (nI h) (nI s) = some (if (sEnt w q h s).isSome = true then 1 else 0) := by
  obtain ⟨hl, -, -, -⟩ := hV.2.2.2.2.1 q hq
  unfold m_X4_letsIn sEnt
  rw [isOpenC hV hC hq hh, bnd_s, if_bi]
  by_cases ho : sOpen w q h = true
  · rw [if_pos ho, if_pos ho, lionAt_y hV hC hq, bnd_s, hasThingC hs hl, bnd_s, if_bi]
    by_cases h9 : w (4 + q) = 9
    · rw [if_pos (Or.inl h9), if_pos h9]; rfl
    · rw [if_neg h9]
      by_cases hb : s.testBit (w (4 + q)) = true
      · rw [if_pos (Or.inr hb), if_pos hb]; rfl
      · rw [if_neg (by simp [h9, hb]), if_neg hb]; rfl
  · rw [if_neg ho, if_neg ho]; rfl
theorem thingsInsideC {w : Nat → Nat} {v : Ob} (hV : WV w) (hC : WC w v) {q h s s' : Nat} (hq : q < w 0) (hs : s < 32) (he : sEnt w q h s = some s') : m_X4_thingsInside v (nI q) (nI s) = some (nI s') := by
  obtain ⟨hl, -, -, -⟩ := hV.2.2.2.2.1 q hq
  unfold sEnt at he
  unfold m_X4_thingsInside
  rw [lionAt_y hV hC hq, bnd_s, pw_isThing, bnd_s, if_bi]
  split at he
  · split at he
    · next h9 =>
      cases he
      rw [h9, if_neg (by decide)]
    · next h9 =>
      split at he
      · next hb =>
        cases he
        rw [if_pos (by rw [nI_toInt (by omega)]; omega), tk_small s hs _ (by omega) hb]
      · cases he
  · cases he
theorem sEnt_lt {w : Nat → Nat} (hV : WV w) {q h s s' : Nat} (hq : q < w 0) (hs : s < 32) (he : sEnt w q h s = some s') : s' < 32 := by
  obtain ⟨hl, -, -, -⟩ := hV.2.2.2.2.1 q hq
  unfold sEnt at he
  split at he
  · split at he
    · cases he; exact hs
    · split at he
      · next hb => cases he; exact tk_lt s hs _ (by omega) hb
      · cases he
  · cases he
theorem entersM {w : Nat → Nat} {v : Ob} (hV : WV w) (hM : WM w (v 1)) {r p h s : Nat} (hr : r < w 1) (hp : p < 8) (hh : h < 2 ^ 20) (hs : s < 32) : m_X6_enters v (nI r) (nI p) (nI h) (nI s) = some (match sWalk w r p h s with | some x => nI x.2 | none => -1) := by
  unfold m_X6_enters sWalk
  rw [otherEndM hV hM hr hp, bnd_s]
  cases hf : sFar w r p with
  | none => rw [if_pos (show (-1 : Int32) < 0 by decide)]; rfl
  | some q =>
    have hq := sFar_lt hV hr hf
    have h7 := hV.1
    obtain ⟨hl, hg, -, -⟩ := hV.2.2.2.2.1 q hq
    have e4 : (4 : Int32) + nI q = nI (4 + q) := nI_add 4 q
    simp only [Option.bind_some]
    rw [if_neg (nI_pos (by omega)), show (24 : Int32) = nI 24 from rfl, rem_nI (by omega) (by omega) (by omega), isOpenM hV hM hq (Nat.mod_lt _ (by omega)), sOpen_day hg, bnd_s, if_bi]
    unfold sEnt
    by_cases ho : sOpen w q h = true
    · rw [if_pos ho, if_pos ho, e4, grd_t (inb_nI (by omega) (by omega)), cl (by omega), (hM.2.2.2.2.1 q hq).1]
      by_cases h9 : w (4 + q) = 9
      · rw [h9, if_pos (show nI 9 = 9 from rfl), if_pos rfl]; rfl
      · rw [if_neg (by rw [show (9 : Int32) = nI 9 from rfl, nI_eq (by omega) (by omega)]; exact h9), if_neg h9, holdsM hs (by omega), bnd_s, if_bi]
        by_cases hb : s.testBit (w (4 + q)) = true
        · rw [if_pos hb, if_pos hb, tk_small s hs _ (by omega) hb]; rfl
        · rw [if_neg hb, if_neg hb]; rfl
    · rw [if_neg ho, if_neg ho]; rfl
theorem sGive_some {w : Nat → Nat} {k p s : Nat} : (sGive w k p s).isSome = true ↔ (w (52 + k) = p ∧ (w (64 + k) = 9 ∨ s.testBit (w (64 + k)) = true) ∧ s.testBit (w (58 + k)) = false) := by
  unfold sGive
  by_cases h : w (52 + k) = p ∧ (w (64 + k) = 9 ∨ s.testBit (w (64 + k)) = true) ∧ s.testBit (w (58 + k)) = false
  · rw [if_pos h]; exact ⟨fun _ => h, fun _ => rfl⟩
  · rw [if_neg h]; exact ⟨fun z => (by cases z), fun z => absurd z h⟩
theorem isGivenC {w : Nat → Nat} {v : Ob} (hV : WV w) (hC : WC w v) {k p s : Nat} (hk : k < w 2) (hp : p < 8) (hs : s < 32) : m_X4_isGiven v (nI k) (nI p) (nI s) = some (if (sGive w k p s).isSome = true then 1 else 0) := by
  have h7 := hV.1
  have h6 := hV.2.2.1
  obtain ⟨ha, hg, hw⟩ := hV.2.2.2.2.2.2.2 k hk
  unfold m_X4_isGiven
  rw [hasHost_y hV hC hk, bnd_s, if1, grd_t (inb_nI (by omega) (by omega)), cl (by omega), (hC.2.2.2.2.2.2 k hk).1, (hC.2.2.2.2.2.2 k hk).2.1, (hC.2.2.2.2.2.2 k hk).2.2, if_nI (by omega) (by omega)]
  by_cases h1 : w (52 + k) = p
  · rw [if_pos h1, grd_t (inb_nI (by omega) (by omega)), hasThingC hs hw, bnd_s, if_bi]
    by_cases h2 : w (64 + k) = 9 ∨ s.testBit (w (64 + k)) = true
    · rw [if_pos h2, grd_t (inb_nI (by omega) (by omega)), hasThingC hs (Or.inl hg), bnd_s, if_bi]
      by_cases h3 : s.testBit (w (58 + k)) = true
      · rw [if_pos (Or.inr h3), if_neg (fun z => by rw [(sGive_some.mp z).2.2] at h3; cases h3)]
      · rw [if_neg (by simp [h3]; omega), if_pos (sGive_some.mpr ⟨h1, h2, by simpa using h3⟩)]
    · rw [if_neg h2, if_neg (fun z => h2 (sGive_some.mp z).2.1)]
  · rw [if_neg h1, if_neg (fun z => h1 (sGive_some.mp z).1)]
theorem givenM {w : Nat → Nat} {v : Ob} (hV : WV w) (hM : WM w (v 1)) {k p s : Nat} (hk : k < w 2) (hp : p < 8) (hs : s < 32) : m_X6_given v (nI k) (nI p) (nI s) = some (match sGive w k p s with | some x => nI x | none => -1) := by
  have h7 := hV.1
  have h6 := hV.2.2.1
  obtain ⟨ha, hg, hw⟩ := hV.2.2.2.2.2.2.2 k hk
  have e52 : (52 : Int32) + nI k = nI (52 + k) := nI_add 52 k
  have e58 : (58 : Int32) + nI k = nI (58 + k) := nI_add 58 k
  have e64 : (64 : Int32) + nI k = nI (64 + k) := nI_add 64 k
  have hj61 : m_X6_given_j61 v (nI k) (nI s) 0 = some (-1) := by unfold m_X6_given_j61; rw [if_pos rfl]
  have hj40 : m_X6_given_j40 v (nI k) (nI s) = some (if s.testBit (w (58 + k)) = false then nI (s + 2 ^ w (58 + k)) else -1) := by
    unfold m_X6_given_j40 m_X6_given_j60
    rw [e58, grd_t (inb_nI (by omega) (by omega)), cl (by omega), (hM.2.2.2.2.2.2 k hk).2.1, holdsM hs hg, bnd_s, if_bi]
    by_cases h3 : s.testBit (w (58 + k)) = true
    · rw [if_pos h3, hj61, if_neg (by simp [h3])]
    · have h3' : s.testBit (w (58 + k)) = false := by simpa using h3
      rw [if_neg h3, if_pos h3']
      unfold m_X6_given_j61
      rw [if1, e58, grd_t (inb_nI (by omega) (by omega)), cl (by omega), (hM.2.2.2.2.2.2 k hk).2.1, gv_small s hs _ hg h3']
  unfold m_X6_given m_X6_given_j60 sGive
  rw [e52, e64, grd_t (inb_nI (by omega) (by omega)), grd_t (inb_nI (by omega) (by omega)), cl (by omega), cl (by omega), (hM.2.2.2.2.2.2 k hk).1, (hM.2.2.2.2.2.2 k hk).2.2, if_nI (by omega) (by omega), hj61, hj40]
  by_cases h1 : w (52 + k) = p
  · rw [if_pos h1]
    by_cases h9 : w (64 + k) = 9
    · rw [h9, if_pos (show nI 9 = 9 from rfl)]
      by_cases h3 : s.testBit (w (58 + k)) = false
      · rw [if_pos h3, if_pos ⟨h1, Or.inl rfl, h3⟩]
      · rw [if_neg h3, if_neg (fun z => h3 z.2.2)]
    · rw [if_neg (by rw [show (9 : Int32) = nI 9 from rfl, nI_eq (by omega) (by omega)]; exact h9), holdsM hs (by omega), bnd_s, if_bi]
      by_cases h2 : s.testBit (w (64 + k)) = true
      · rw [if_pos h2]
        by_cases h3 : s.testBit (w (58 + k)) = false
        · rw [if_pos h3, if_pos ⟨h1, Or.inr h2, h3⟩]
        · rw [if_neg h3, if_neg (fun z => h3 z.2.2)]
      · rw [if_neg h2, if_neg (by simp [h9, h2])]
  · rw [if_neg h1, if_neg (fun z => h1 z.1)]
