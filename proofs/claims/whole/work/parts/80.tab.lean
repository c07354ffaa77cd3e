section
/-! PURE: the table of the ways: a cell's bits -/
def TB (f : Nat → Int32) (k p s : Nat) : Bool := decide (k ≤ 60) && bt (f (7 * k + p)) s
def gt (f : Nat → Int32) (k p : Nat) : Int32 := if k ≤ 60 then f (7 * k + p) else 0
def ad (f : Nat → Int32) (k p : Nat) (x : Int32) : Nat → Int32 := if k ≤ 60 then upd f (7 * k + p) (f (7 * k + p) ||| x) else f
def nbI (n : Nat) : Int32 := if n < 16 then nI n else -1
theorem bt_gt (f : Nat → Int32) (k p s : Nat) : bt (gt f k p) s = TB f k p s := by
  unfold gt TB
  by_cases h : k ≤ 60
  · rw [if_pos h]; simp [h]
  · rw [if_neg h, b_0]; simp [h]
theorem TB_ad (f : Nat → Int32) {k p k' p' : Nat} (hp : p < 7) (hp' : p' < 7) (x : Int32) (s : Nat) : TB (ad f k p x) k' p' s = true ↔ (TB f k' p' s = true ∨ (k' = k ∧ p' = p ∧ k ≤ 60 ∧ bt x s = true)) := by
  unfold ad TB
  by_cases h : k ≤ 60
  · rw [if_pos h]
    by_cases he : 7 * k' + p' = 7 * k + p
    · have h1 : k' = k := by omega
      have h2 : p' = p := by omega
      subst h1; subst h2
      rw [upd_eq, b_or]
      simp [h]
    · rw [upd_ne _ _ he]
      have : ¬ (k' = k ∧ p' = p) := fun z => he (by rw [z.1, z.2])
      constructor
      · intro z; exact Or.inl z
      · rintro (z | ⟨z1, z2, -⟩)
        · exact z
        · exact absurd ⟨z1, z2⟩ this
  · rw [if_neg h]
    constructor
    · intro z; exact Or.inl z
    · rintro (z | ⟨z1, z2, z3, -⟩)
      · exact z
      · exact absurd z3 h
theorem nbI_eq {n k : Nat} (hk : k < 16) : nI k = nbI n ↔ k = n := by
  unfold nbI
  by_cases h : n < 16
  · rw [if_pos h, nI_eq (by omega) (by omega)]
  · rw [if_neg h]
    constructor
    · intro q
      have := congrArg Int32.toInt q
      rw [nI_toInt (by omega), show (-1 : Int32).toInt = -1 by decide] at this
      omega
    · intro q; omega
theorem isCell_e {k p : Nat} (hk : k < 2 ^ 20) (hp : p < 7) : m_X3_isCell (nI k) (nI p) = some (if k ≤ 60 then 1 else 0) := by
  unfold m_X3_isCell
  rw [if_neg (nI_pos (by omega)), show (60 : Int32) = nI 60 from rfl, show (7 : Int32) = nI 7 from rfl]
  by_cases h : k ≤ 60
  · rw [if_neg (nI_nlt h (by omega)), if_neg (nI_pos (by omega)), if_neg (nI_ge hp (by omega)), if_pos h]
  · rw [if_pos (nI_lt (by omega) (by omega)), if_neg h]
theorem i7 (k p : Nat) : nI k * (7 : Int32) + nI p = nI (7 * k + p) := by
  rw [show (7 : Int32) = nI 7 from rfl, nI_mulN, nI_add, Nat.mul_comm]
theorem setsAt_e (V : Ob) (f : Nat → Int32) {k p : Nat} (hk : k < 2 ^ 20) (hp : p < 7) : m_X3_setsAt (upR V 3 f) (nI k) (nI p) = some (gt f k p) := by
  unfold m_X3_setsAt gt
  rw [isCell_e hk hp, bnd_s, if_bi, i7]
  by_cases h : k ≤ 60
  · rw [if_pos h, if_pos h, grd_t (inb_nI (by omega) (by omega)), cl (by omega), upR_eq]
  · rw [if_neg h, if_neg h]
theorem addSets_e (V : Ob) (f : Nat → Int32) {k p : Nat} (hk : k < 2 ^ 20) (hp : p < 7) (x : Int32) : m_X3_addSets (upR V 3 f) (nI k) (nI p) x = some (upR V 3 (ad f k p x)) := by
  unfold m_X3_addSets ad
  rw [isCell_e hk hp, bnd_s, if_bi, i7]
  by_cases h : k ≤ 60
  · rw [if_pos h, if_pos h, grd_t (inb_nI (by omega) (by omega)), grd_t (inb_nI (by omega) (by omega)), cl (by omega), upR_eq, st_upR]
  · rw [if_neg h, if_neg h]
theorem b_sshr0 (x : Int32) {s : Nat} (hs : s < 32) : ((x >>> (nI s &&& 31)) &&& 1 = 1) ↔ bt x s = true := by
  have e : bt (x >>> (nI s &&& 31)) 0 = bt x s := by
    rw [b_sshr s hs x (by omega), if_pos (by omega)]; rfl
  rw [← e]
  have key : ∀ b : Bool, (∀ i, i < 32 → bt ((x >>> (nI s &&& 31)) &&& 1) i = (b && decide (i = 0))) → bt (x >>> (nI s &&& 31)) 0 = b → (((x >>> (nI s &&& 31)) &&& 1 = 1) ↔ b = true) := by
    intro b hb hb0
    cases b with
    | true =>
      refine ⟨fun _ => rfl, fun _ => b_ext (fun i hi => ?_)⟩
      rw [hb i hi]
      exact (by decide +kernel : ∀ i, i < 32 → (true && decide (i = 0)) = bt 1 i) i hi
    | false =>
      refine ⟨fun z => ?_, fun z => by cases z⟩
      have := hb 0 (by omega)
      rw [z] at this
      exact absurd this (by decide)
  have hk := key (bt (x >>> (nI s &&& 31)) 0) (fun i hi => by
    rw [b_and]
    rw [(by decide +kernel : ∀ i, i < 32 → bt 1 i = decide (i = 0)) i hi]
    by_cases h : i = 0
    · subst h; rfl
    · simp [h]) rfl
  exact hk
theorem b_ushr0 (x : Int32) {s : Nat} (hs : s < 32) : ((ushr x (nI s)) &&& 1 = 1) ↔ bt x s = true := by
  have e : bt (ushr x (nI s)) 0 = bt x s := by
    unfold ushr
    rw [b_ushr s hs x 0]; rfl
  have hx : (ushr x (nI s)) &&& 1 = if bt x s = true then 1 else 0 := by
    apply b_ext
    intro i hi
    rw [b_and, (by decide +kernel : ∀ i, i < 32 → bt 1 i = decide (i = 0)) i hi]
    by_cases h : i = 0
    · subst h
      rw [e]
      cases bt x s <;> decide
    · rw [decide_eq_false h, Bool.and_false]
      split
      · rw [(by decide +kernel : ∀ i, i < 32 → bt 1 i = decide (i = 0)) i hi, decide_eq_false h]
      · rw [b_0]
  rw [hx]
  cases bt x s <;> decide
theorem canBeHome_e (V : Ob) (f : Nat → Int32) {k p s : Nat} (hk : k < 2 ^ 20) (hp : p < 7) (hs : s < 32) (E : Ob) (hE : E 3 = f) : m_X3_canBeHome E (nI k) (nI p) (nI s) = some (if TB f k p s = true then 1 else 0) := by
  unfold m_X3_canBeHome TB
  rw [isCell_e hk hp, bnd_s, if_bi, i7]
  by_cases h : k ≤ 60
  · rw [if_pos h, grd_t (inb_nI (by omega) (by omega)), cl (by omega), hE]
    by_cases hb : bt (f (7 * k + p)) s = true
    · rw [if_pos ((b_ushr0 _ hs).mpr hb), if_pos (by simp [h, hb])]
    · rw [if_neg (fun z => hb ((b_ushr0 _ hs).mp z)), if_neg (by simp [hb])]
  · rw [if_neg h, if_neg (by simp [h])]
/-- the sets that have a thing -/
def hav (t : Nat) : Int32 := if t < 5 then fHav t else -1
theorem hav_small : ∀ t, t < 5 → ∀ s, s < 32 → bt (fHav t) s = s.testBit t := by decide +kernel
theorem hav_b {t s : Nat} (ht : t < 5 ∨ t = 9) (hs : s < 32) : bt (hav t) s = true ↔ (t = 9 ∨ s.testBit t = true) := by
  unfold hav
  rcases ht with h | h
  · rw [if_pos h, hav_small t h s hs]
    constructor
    · intro z; exact Or.inr z
    · rintro (z | z)
      · omega
      · exact z
  · subst h
    rw [if_neg (by omega), b_m1 s hs]
    simp
theorem isTh {t : Nat} (ht : t < 2 ^ 20) : m_X5_isThing (nI t) = some (if t < 5 then 1 else 0) := by
  rw [pw_isThing, nI_toInt (by omega)]
  by_cases h : t < 5
  · rw [if_pos h, if_pos (by omega)]
  · rw [if_neg h, if_neg (by omega)]
theorem having {t : Nat} (ht : t < 2 ^ 20) : m_X3_setsHaving (nI t) = some (hav t) := by
  unfold m_X3_setsHaving hav
  rw [isTh ht, bnd_s, if_bi]
  by_cases h : t < 5
  · rw [if_pos h, if_pos h, grd_t (inb_nI h (by omega)), cl (by omega)]
  · rw [if_neg h, if_neg h]
/-- what a lion takes -/
def tk (l s : Nat) : Option Nat := if l = 9 then some s else if s.testBit l = true then some (s - 2 ^ l) else none
theorem sEnt_tk (w : Nat → Nat) (q h s : Nat) : sEnt w q h s = if sOpen w q h = true then tk (w (4 + q)) s else none := rfl
theorem b_ush2 (x : Int32) {n : Nat} (hn : n < 32) (i : Nat) : bt (ushr x (nI n)) i = bt x (n + i) := b_ushr n hn x i
theorem two5 : ∀ l, l < 5 → 2 ^ l ≤ 16 := by decide
theorem tk_p : ∀ l, l < 5 → ∀ s, s < 32 → ((2 ^ l + s < 32 ∧ (2 ^ l + s).testBit l = true) → (2 ^ l + s) - 2 ^ l = s) := by decide +kernel
theorem tk_q : ∀ l, l < 5 → ∀ s, s < 32 → s.testBit l = true → 2 ^ l ≤ s := by decide +kernel
theorem lessC (x : Int32) {l : Nat} (hl : l < 5 ∨ l = 9) : ∃ y, m_X3_setsLess x (nI l) = some y ∧ ∀ s, s < 32 → (bt y s = true ↔ ∃ s0, s0 < 32 ∧ bt x s0 = true ∧ tk l s0 = some s) := by
  unfold m_X3_setsLess
  rw [isTh (by omega), bnd_s, if_bi]
  rcases hl with h | h
  · rw [if_pos h, grd_t (inb_nI h (by omega)), cl (by omega), shl1 l (by omega)]
    have h16 := two5 l h
    refine ⟨_, rfl, fun s hs => ?_⟩
    rw [b_ush2 _ (by omega), b_and]
    constructor
    · intro z
      simp only [Bool.and_eq_true] at z
      have hlt : 2 ^ l + s < 32 := by
        rcases Nat.lt_or_ge (2 ^ l + s) 32 with c | c
        · exact c
        · rw [b_big c] at z; cases z.1
      rw [hav_small l h _ hlt] at z
      refine ⟨2 ^ l + s, hlt, z.1, ?_⟩
      unfold tk
      rw [if_neg (by omega), if_pos z.2, tk_p l h s hs ⟨hlt, z.2⟩]
    · rintro ⟨s0, h0, h1, h2⟩
      unfold tk at h2
      rw [if_neg (by omega)] at h2
      split at h2
      · next hb =>
        cases h2
        have := tk_q l h s0 h0 hb
        rw [show 2 ^ l + (s0 - 2 ^ l) = s0 by omega, h1, hav_small l h s0 h0, hb]; rfl
      · cases h2
  · subst h
    rw [if_neg (by omega)]
    refine ⟨x, rfl, fun s hs => ⟨fun z => ⟨s, hs, z, rfl⟩, ?_⟩⟩
    rintro ⟨s0, h0, h1, h2⟩
    cases h2
    exact h1
theorem withC (x : Int32) {l : Nat} (hl : l < 5 ∨ l = 9) : ∃ y, m_X3_setsWith x (nI l) = some y ∧ ∀ s, s < 32 → (bt y s = true ↔ ∃ s1, s1 < 32 ∧ bt x s1 = true ∧ tk l s = some s1) := by
  unfold m_X3_setsWith
  rw [isTh (by omega), bnd_s, if_bi]
  rcases hl with h | h
  · rw [if_pos h, grd_t (inb_nI h (by omega)), cl (by omega), shl1 l (by omega)]
    have h16 := two5 l h
    refine ⟨_, rfl, fun s hs => ?_⟩
    rw [b_and, b_shl _ (by omega) _ hs, hav_small l h s hs]
    constructor
    · intro z
      simp only [Bool.and_eq_true, decide_eq_true_eq] at z
      refine ⟨s - 2 ^ l, Nat.lt_of_le_of_lt (Nat.sub_le _ _) hs, z.1.2, ?_⟩
      unfold tk
      rw [if_neg (by omega), if_pos z.2]
    · rintro ⟨s1, h0, h1, h2⟩
      unfold tk at h2
      rw [if_neg (by omega)] at h2
      split at h2
      · next hb =>
        cases h2
        have := tk_q l h s hs hb
        rw [h1, hb]; simp [this]
      · cases h2
  · subst h
    rw [if_neg (by omega)]
    refine ⟨x, rfl, fun s hs => ⟨fun z => ⟨s, hs, z, rfl⟩, ?_⟩⟩
    rintro ⟨s1, h0, h1, h2⟩
    cases h2
    exact h1
/-- an ask in the table's order: forward or backward -/
def Ar (w : Nat → Nat) (d : Bool) (h p s s2 : Nat) : Prop := if d = true then sGive w h p s = some s2 else sGive w h p s2 = some s
theorem gv_q : ∀ g, g < 5 → ∀ s, s < 32 → s.testBit g = false → (s + 2 ^ g < 32 ∧ (s + 2 ^ g).testBit g = true ∧ s + 2 ^ g - 2 ^ g = s) := by decide +kernel
theorem gv_r : ∀ g, g < 5 → ∀ s, s < 32 → 2 ^ g ≤ s → (s - 2 ^ g).testBit g = false → (s - 2 ^ g) + 2 ^ g = s := by decide +kernel
theorem served_b {a g s : Nat} (ha : a < 5 ∨ a = 9) (hg : g < 5) (hs : s < 32) : bt (hav a &&& (hav g ^^^ (-1 : Int32))) s = true ↔ ((a = 9 ∨ s.testBit a = true) ∧ s.testBit g = false) := by
  rw [b_and, b_xor, b_m1 s hs, Bool.and_eq_true, hav_b ha hs]
  have : bt (hav g) s = s.testBit g := by unfold hav; rw [if_pos hg, hav_small g hg s hs]
  rw [this]
  simp
theorem askC {w : Nat → Nat} {vW : Ob} (hV : WV w) (hC : WC w vW) (V : Ob) (f : Nat → Int32) {e h : Nat} (he : e ≤ 60) (hh : h < w 2) (d : Bool) :
    ∃ (g : Nat → Int32) (b : Bool), m_X3_isAskMore (upR V 3 f) vW (nI e) (nI h) (if d = true then 1 else 0) = some (if b = true then 1 else 0, upR V 3 g) ∧ (b = false → g = f) ∧ ∀ k p s, p < 7 → s < 32 → (TB g k p s = true ↔ (TB f k p s = true ∨ (k = e ∧ ∃ s0, s0 < 32 ∧ TB f e p s0 = true ∧ Ar w d h p s0 s))) := by
  have h7 := hV.1
  obtain ⟨hp, hg, ha⟩ := hV.2.2.2.2.2.2.2 h hh
  have key : ∀ x : Int32, (∀ s, s < 32 → (bt x s = true ↔ ∃ s0, s0 < 32 ∧ TB f e (w (52 + h)) s0 = true ∧ Ar w d h (w (52 + h)) s0 s)) → ∃ (g : Nat → Int32) (b : Bool), m_X3_isAskMore_j81 vW (upR V 3 f) (nI e) (nI (w (52 + h))) (gt f e (w (52 + h))) (nI e) (nI (w (52 + h))) x = some (if b = true then 1 else 0, upR V 3 g) ∧ (b = false → g = f) ∧ ∀ k p s, p < 7 → s < 32 → (TB g k p s = true ↔ (TB f k p s = true ∨ (k = e ∧ ∃ s0, s0 < 32 ∧ TB f e p s0 = true ∧ Ar w d h p s0 s))) := by
    intro x hx
    have hbits : ∀ k p s, p < 7 → s < 32 → (TB (ad f e (w (52 + h)) x) k p s = true ↔ (TB f k p s = true ∨ (k = e ∧ ∃ s0, s0 < 32 ∧ TB f e p s0 = true ∧ Ar w d h p s0 s))) := by
      intro k p s hp7 hs
      rw [TB_ad f (by omega) hp7, hx s hs]
      constructor
      · rintro (z | ⟨z1, z2, z3, z4⟩)
        · exact Or.inl z
        · subst z2; exact Or.inr ⟨z1, z4⟩
      · rintro (z | ⟨z1, s0, z2, z3, z4⟩)
        · exact Or.inl z
        · have : p = w (52 + h) := by
            unfold Ar at z4
            cases d with
            | true => rw [if_pos rfl] at z4; unfold sGive at z4; split at z4
                      · next c => exact c.1.symm
                      · cases z4
            | false => rw [if_neg (by decide)] at z4; unfold sGive at z4; split at z4
                       · next c => exact c.1.symm
                       · cases z4
          subst this
          exact Or.inr ⟨z1, rfl, he, s0, z2, z3, z4⟩
    unfold m_X3_isAskMore_j81
    rw [addSets_e V f (by omega) (by omega), bnd_s, setsAt_e V _ (by omega) (by omega), bnd_s]
    by_cases hq : gt (ad f e (w (52 + h)) x) e (w (52 + h)) = gt f e (w (52 + h))
    · rw [if_pos hq]
      refine ⟨_, false, rfl, fun _ => ?_, hbits⟩
      unfold gt at hq
      rw [if_pos he, if_pos he] at hq
      funext i
      by_cases hi : i = 7 * e + w (52 + h)
      · subst hi; exact hq
      · unfold ad
        rw [if_pos he, upd_ne _ _ hi]
    · rw [if_neg hq]
      exact ⟨_, true, rfl, (fun z => by cases z), hbits⟩
  unfold m_X3_isAskMore
  rw [hostPlace_y hV hC hh, bnd_s, hostGives_y hV hC hh, bnd_s, setsAt_e V f (by omega) (by omega), bnd_s, hostAsks_y hV hC hh, bnd_s, having (by omega), bnd_s, having (by omega), bnd_s, shl1 _ (by omega)]
  have h16 := two5 _ hg
  cases d with
  | false =>
    rw [if_pos (show (if false = true then (1 : Int32) else 0) = 0 from rfl)]
    apply key
    intro s hs
    rw [b_and, b_ush2 _ (by omega), bt_gt, Bool.and_eq_true, served_b ha hg hs]
    constructor
    · rintro ⟨z1, z2, z3⟩
      obtain ⟨y1, y2, y3⟩ := gv_q _ hg s hs z3
      refine ⟨s + 2 ^ w (58 + h), y1, by rw [Nat.add_comm s]; exact z1, ?_⟩
      unfold Ar
      rw [if_neg (by decide)]
      unfold sGive
      rw [if_pos ⟨rfl, z2, z3⟩]
    · rintro ⟨s0, z1, z2, z3⟩
      unfold Ar at z3
      rw [if_neg (by decide)] at z3
      unfold sGive at z3
      split at z3
      · next c =>
        cases z3
        exact ⟨by rw [Nat.add_comm (2 ^ _)]; exact z2, c.2⟩
      · cases z3
  | true =>
    rw [if_neg (show ¬ (if true = true then (1 : Int32) else 0) = 0 by decide)]
    apply key
    intro s hs
    rw [b_shl _ (by omega) _ hs, b_and, bt_gt]
    constructor
    · intro z
      simp only [Bool.and_eq_true, decide_eq_true_eq] at z
      obtain ⟨z1, z2, z3⟩ := z
      have hx : s - 2 ^ w (58 + h) < 32 := Nat.lt_of_le_of_lt (Nat.sub_le _ _) hs
      have z4 := (served_b ha hg hx).mp z3
      refine ⟨_, hx, z2, ?_⟩
      unfold Ar
      rw [if_pos rfl]
      unfold sGive
      rw [if_pos ⟨rfl, z4⟩, gv_r _ hg s hs z1 z4.2]
    · rintro ⟨s0, z1, z2, z3⟩
      unfold Ar at z3
      rw [if_pos rfl] at z3
      unfold sGive at z3
      split at z3
      · next c =>
        cases z3
        have z5 := (served_b ha hg z1).mpr c.2
        obtain ⟨y1, y2, y3⟩ := gv_q _ hg s0 z1 c.2.2
        rw [y3, z2, z5]
        simp
      · cases z3
end
