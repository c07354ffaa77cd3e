section
/-! PURE: the first soonest way, step by step; how long it can be -/
def Lst (w : Nat → Nat) (H t e σ k p s k' p' s' : Nat) : Prop := Sp w H 99 99 σ k p s k' p' s' ∧ CB w H 99 99 t e k' p' s' ∧ ∀ σ' k1 p1 s1, σ' < σ → Sp w H 99 99 σ' k p s k1 p1 s1 → ¬ CB w H 99 99 t e k1 p1 s1
def Wy (w : Nat → Nat) (H t e p0 s0 n : Nat) (σ K P S : Nat → Nat) : Prop := (K 0 = 0 ∧ P 0 = p0 ∧ S 0 = s0) ∧ (∀ i, i < n → Lst w H t e (σ i) (K i) (P i) (S i) (K (i + 1)) (P (i + 1)) (S (i + 1))) ∧ (K n = e ∧ P n = 0 ∧ (S n).testBit t = true) ∧ ∀ i, i < n → ¬ (P i = 0 ∧ (S i).testBit t = true)
theorem least_of {P : Nat → Prop} : ∀ n, P n → ∃ m, P m ∧ ∀ k, k < m → ¬ P k := by
  intro n
  induction n using Nat.strongRecOn with
  | ind n ih =>
    intro h
    by_cases hk : ∃ k, k < n ∧ P k
    · obtain ⟨k, h1, h2⟩ := hk
      exact ih k h1 h2
    · exact ⟨n, h, fun k h1 h2 => hk ⟨k, h1, h2⟩⟩
theorem sEnt_pop {w : Nat → Nat} (hV : WV w) {q h s s' : Nat} (hq : q < w 0) (hs : s < 32) (he : sEnt w q h s = some s') : (w (4 + q) = 9 ∧ s' = s) ∨ (w (4 + q) < 5 ∧ s.testBit (w (4 + q)) = true ∧ s' = s - 2 ^ w (4 + q) ∧ pop s' + 1 = pop s) := by
  obtain ⟨hl, -, -, -⟩ := hV.2.2.2.2.1 q hq
  unfold sEnt at he
  split at he
  · split at he
    · next h9 => cases he; exact Or.inl ⟨h9, rfl⟩
    · next h9 =>
      split at he
      · next hb =>
        cases he
        have hl5 : w (4 + q) < 5 := by omega
        exact Or.inr ⟨hl5, hb, rfl, pop_tk _ hl5 s hs hb⟩
      · cases he
  · cases he
theorem sWalk_ent {w : Nat → Nat} (hV : WV w) {r p h s q s' : Nat} (hr : r < w 1) (hw : sWalk w r p h s = some (q, s')) : sEnt w q h s = some s' ∧ q < w 0 := by
  obtain ⟨ha, hb, -, -, -⟩ := hV.2.2.2.2.2.2.1 r hr
  rcases (sWalk_iff hV hr).mp hw with ⟨-, z2, z3⟩ | ⟨-, z2, z3⟩
  · subst z2; exact ⟨z3, hb⟩
  · subst z2; exact ⟨z3, ha⟩
/-- a step brings one on -/
theorem Sp_mu {w : Nat → Nat} (hV : WV w) {H nr nh σ k p s k' p' s' e : Nat} (hs : s < 32) (h : Sp w H nr nh σ k p s k' p' s') (he : k' ≤ e) : 6 * (e - k') + (5 - pop s') < 6 * (e - k) + (5 - pop s) := by
  have hp := pop_le s hs
  have hin := Sp_in hV hs h
  have hp' := pop_le s' hin.2.2.1
  rcases h with ⟨h1, h2, h3, h4, h5⟩ | ⟨r, h1, h2, h3, h4, h5⟩ | ⟨g, h1, h2, h3, h4, h5, h6⟩
  · subst h5; omega
  · obtain ⟨-, -, -, hl1, -⟩ := hV.2.2.2.2.2.2.1 r h2
    obtain ⟨w1, w2⟩ := sWalk_ent hV h2 h5
    rcases sEnt_pop hV w2 hs w1 with ⟨-, q⟩ | ⟨-, -, -, q⟩
    · subst q; omega
    · omega
  · have := (sGive_in hV h2 hs h6).2.1
    omega
theorem wy_ex {w : Nat → Nat} (hV : WV w) {H t e : Nat} : ∀ (μ k p s : Nat), 6 * (e - k) + (5 - pop s) < μ → s < 32 → CB w H 99 99 t e k p s →
    ∃ (n : Nat) (σ K P S : Nat → Nat), (K 0 = k ∧ P 0 = p ∧ S 0 = s) ∧ (∀ i, i < n → Lst w H t e (σ i) (K i) (P i) (S i) (K (i + 1)) (P (i + 1)) (S (i + 1))) ∧ (K n = e ∧ P n = 0 ∧ (S n).testBit t = true) ∧ ∀ i, i < n → ¬ (K i = e ∧ P i = 0 ∧ (S i).testBit t = true)
  | 0, k, p, s, hm, _, _ => by omega
  | μ + 1, k, p, s, hm, hs, hc => by
    by_cases hf : k = e ∧ p = 0 ∧ s.testBit t = true
    · exact ⟨0, fun _ => 0, fun _ => k, fun _ => p, fun _ => s, ⟨rfl, rfl, rfl⟩, fun i hi => by omega, hf, fun i hi => by omega⟩
    · have hex : ∃ σ k' p' s', Sp w H 99 99 σ k p s k' p' s' ∧ CB w H 99 99 t e k' p' s' := (CB_cases hc).resolve_left hf
      obtain ⟨σ0, h0⟩ := hex
      obtain ⟨σ1, ⟨k', p', s', h1, h2⟩, h3⟩ := least_of (P := fun σ => ∃ k' p' s', Sp w H 99 99 σ k p s k' p' s' ∧ CB w H 99 99 t e k' p' s') σ0 h0
      have hin := Sp_in hV hs h1
      have hmu := Sp_mu hV hs h1 (CB_le h2)
      obtain ⟨n, σ, K, P, S, ⟨a1, a2, a3⟩, b, c, d⟩ := wy_ex hV μ k' p' s' (by omega) hin.2.2.1 h2
      refine ⟨n + 1, fun i => if i = 0 then σ1 else σ (i - 1), fun i => if i = 0 then k else K (i - 1), fun i => if i = 0 then p else P (i - 1), fun i => if i = 0 then s else S (i - 1), ⟨rfl, rfl, rfl⟩, fun i hi => ?_, c, fun i hi => ?_⟩
      · cases i with
        | zero =>
          show Lst w H t e σ1 k p s (K 0) (P 0) (S 0)
          rw [a1, a2, a3]
          exact ⟨h1, h2, fun σ' k1 p1 s1 z1 z2 z3 => h3 σ' z1 ⟨k1, p1, s1, z2, z3⟩⟩
        | succ i => exact b i (by omega)
      · cases i with
        | zero => exact hf
        | succ i => exact d i (by omega)
theorem wy_FR {w : Nat → Nat} {H t e p0 s0 n : Nat} {σ K P S : Nat → Nat} (h0 : K 0 = 0 ∧ P 0 = p0 ∧ S 0 = s0) (h : ∀ i, i < n → Lst w H t e (σ i) (K i) (P i) (S i) (K (i + 1)) (P (i + 1)) (S (i + 1))) : ∀ i, i ≤ n → FR w H 99 99 p0 s0 (K i) (P i) (S i)
  | 0, _ => by rw [h0.1, h0.2.1, h0.2.2]; exact .z
  | i + 1, hi => .c (wy_FR h0 h i (by omega)) (h i (by omega)).1
/-- with the fewest hours, a way -/
theorem wy_of {w : Nat → Nat} (hV : WV w) {H t e p0 s0 : Nat} (hs0 : s0 < 32) (hc : CB w H 99 99 t e 0 p0 s0) (hmin : ∀ e', e' < e → ¬ CB w H 99 99 t e' 0 p0 s0) : ∃ (n : Nat) (σ K P S : Nat → Nat), Wy w H t e p0 s0 n σ K P S := by
  obtain ⟨n, σ, K, P, S, a, b, c, d⟩ := wy_ex hV (6 * (e - 0) + (5 - pop s0) + 1) 0 p0 s0 (by omega) hs0 hc
  refine ⟨n, σ, K, P, S, a, b, c, fun i hi z => ?_⟩
  have hF := wy_FR a b i (by omega)
  have hle : K i ≤ e := by
    have h1 := (b i hi).1
    have h2 := CB_le (b i hi).2.1
    rcases h1 with ⟨-, -, h3, -⟩ | ⟨r, -, -, -, h4, -⟩ | ⟨g, -, -, -, h4, -⟩ <;> omega
  rcases Nat.lt_or_ge (K i) e with h | h
  · rw [z.1] at hF
    exact hmin (K i) h (CB_iff.mpr ⟨S i, hF, z.2⟩)
  · exact d i hi ⟨by omega, z.1, z.2⟩
/-- facts of all moments of a way -/
theorem wy_S {w : Nat → Nat} (hV : WV w) {H t e p0 s0 n : Nat} {σ K P S : Nat → Nat} (hW : Wy w H t e p0 s0 n σ K P S) (hp0 : p0 < 7) (hs0 : s0 < 32) {i : Nat} (hi : i ≤ n) : P i < 7 ∧ S i < 32 := FR_in hV hp0 hs0 (wy_FR hW.1 hW.2.1 i hi)
theorem wy_CB {w : Nat → Nat} {H t e p0 s0 n : Nat} {σ K P S : Nat → Nat} (hW : Wy w H t e p0 s0 n σ K P S) {i : Nat} (hi : i ≤ n) : CB w H 99 99 t e (K i) (P i) (S i) := by
  by_cases h : i < n
  · exact .c (hW.2.1 i h).1 (hW.2.1 i h).2.1
  · have : i = n := by omega
    subst this
    obtain ⟨a, b, c⟩ := hW.2.2.1
    rw [a, b]
    exact .z c
theorem wy_lt {w : Nat → Nat} (hV : WV w) {H t e p0 s0 n : Nat} {σ K P S : Nat → Nat} (hW : Wy w H t e p0 s0 n σ K P S) (hp0 : p0 < 7) (hs0 : s0 < 32) (i : Nat) : ∀ d, i + d + 1 ≤ n → K i < K (i + d + 1) ∨ (K i = K (i + d + 1) ∧ S i < S (i + d + 1))
  | d, hd => by
    have step : ∀ a, a < n → K a < K (a + 1) ∨ (K a = K (a + 1) ∧ S a < S (a + 1)) := by
      intro a ha
      have hs := (wy_S hV hW hp0 hs0 (i := a) (by omega)).2
      have h := (hW.2.1 a ha).1
      have hin := Sp_in hV hs h
      have h9 := hV.2.1
      rcases h with ⟨-, -, h3, -⟩ | ⟨r, h1, h2, h3, h4, h5⟩ | ⟨g, h1, h2, h3, h4, h5, h6⟩
      · exact Or.inl (by omega)
      · exact Or.inl (hin.2.2.2.2 (by omega))
      · exact Or.inr ⟨by omega, (sGive_in hV h2 hs h6).2.2.2⟩
    cases d with
    | zero => exact step i (by omega)
    | succ d =>
      have h1 := wy_lt hV hW hp0 hs0 i d (by omega)
      have h2 := step (i + d + 1) (by omega)
      rw [show i + (d + 1) + 1 = i + d + 1 + 1 by omega]
      omega
theorem CB_wait {w : Nat → Nat} {H t e k p s : Nat} (hp : p < w 0) (h : CB w H 99 99 t e k p s) : ∀ d, d ≤ k → CB w H 99 99 t e (k - d) p s
  | 0, _ => h
  | d + 1, hd => by
    have := CB_wait hp h d (by omega)
    exact .c (σ := 0) (Or.inl ⟨rfl, hp, by omega, rfl, rfl⟩) this
/-- what is left by another step than a wait never comes back -/
theorem wy_A {w : Nat → Nat} (hV : WV w) {H t e p0 s0 n : Nat} {σ K P S : Nat → Nat} (hW : Wy w H t e p0 s0 n σ K P S) (hp0 : p0 < 7) (hs0 : s0 < 32) {i j : Nat} (hij : i < j) (hj : j ≤ n) (hσ : σ i ≠ 0) (hP : P i = P j) (hS : S i = S j) : False := by
  have hlt := wy_lt hV hW hp0 hs0 i (j - i - 1) (by omega)
  rw [show i + (j - i - 1) + 1 = j by omega] at hlt
  have hK : K i < K j := by omega
  have hs := (wy_S hV hW hp0 hs0 (i := i) (by omega)).2
  have hL := hW.2.1 i (by omega)
  have hpi := (Sp_in hV hs hL.1).1
  have hcb := wy_CB hW hj
  rw [← hP, ← hS] at hcb
  have := CB_wait hpi hcb (K j - (K i + 1)) (by omega)
  rw [show K j - (K j - (K i + 1)) = K i + 1 by omega] at this
  exact hL.2.2 0 _ _ _ (by omega) (Or.inl ⟨rfl, hpi, rfl, rfl, rfl⟩) this
theorem wy_B {w : Nat → Nat} (hV : WV w) {H t e p0 s0 n : Nat} {σ K P S : Nat → Nat} (hW : Wy w H t e p0 s0 n σ K P S) (hp0 : p0 < 7) (hs0 : s0 < 32) {i j : Nat} (hij : i < j) (hj : j < n) (hσ : σ j ≠ 0) (hP : P (i + 1) = P (j + 1)) (hS : S (i + 1) = S (j + 1)) : False := by
  have key : ∀ x m, j - m = x → i + 1 ≤ m → m ≤ j → P m = P (j + 1) → S m = S (j + 1) → False := by
    intro x
    induction x with
    | zero =>
      intro m h1 h2 h3 h4 h5
      have : m = j := by omega
      subst this
      exact wy_A hV hW hp0 hs0 (i := m) (j := m + 1) (by omega) (by omega) hσ h4 h5
    | succ x ih =>
      intro m h1 h2 h3 h4 h5
      by_cases hm : σ m = 0
      · have h := (hW.2.1 m (by omega)).1
        rcases h with ⟨-, -, y3, y4, y5⟩ | ⟨r, y1, -⟩ | ⟨g, y1, -⟩
        · exact ih (m + 1) (by omega) (by omega) (by omega) (by rw [y4, h4]) (by rw [y5, h5])
        · omega
        · omega
      · exact wy_A hV hW hp0 hs0 (i := m) (j := j + 1) (by omega) (by omega) hm h4 h5
  exact key _ (i + 1) rfl (by omega) (by omega) hP hS
/-! counting -/
def cnt (B : Nat → Bool) : Nat → Nat
  | 0 => 0
  | n + 1 => cnt B n + (if B n = true then 1 else 0)
theorem cnt_cong {B C : Nat → Bool} : ∀ n, (∀ i, i < n → B i = C i) → cnt B n = cnt C n
  | 0, _ => rfl
  | n + 1, h => by
    unfold cnt
    rw [cnt_cong n (fun i hi => h i (by omega)), h n (by omega)]
theorem cnt_0 {B : Nat → Bool} : ∀ n, (∀ i, i < n → B i = false) → cnt B n = 0
  | 0, _ => rfl
  | n + 1, h => by
    unfold cnt
    rw [cnt_0 n (fun i hi => h i (by omega)), h n (by omega)]; rfl
theorem cnt_del {B : Nat → Bool} {c : Nat} (hc : B c = true) : ∀ n, cnt (fun i => B i && !decide (i = c)) n + (if c < n then 1 else 0) = cnt B n
  | 0 => by simp [cnt]
  | n + 1 => by
    have ih := cnt_del hc n
    show cnt (fun i => B i && !decide (i = c)) n + (if (B n && !decide (n = c)) = true then 1 else 0) + (if c < n + 1 then 1 else 0) = cnt B n + (if B n = true then 1 else 0)
    by_cases h : n = c
    · subst h
      rw [if_neg (by omega)] at ih
      rw [if_pos (show n < n + 1 by omega), if_pos hc, if_neg (by simp)]
      omega
    · rw [show (!decide (n = c)) = true by simp [h], Bool.and_true]
      by_cases h2 : c < n
      · rw [if_pos h2] at ih; rw [if_pos (show c < n + 1 by omega)]; omega
      · rw [if_neg h2] at ih; rw [if_neg (show ¬ c < n + 1 by omega)]; omega
theorem cnt_inj {M : Nat} {c : Nat → Nat} : ∀ (n : Nat) (B Q : Nat → Bool), (∀ i, i < n → B i = true → c i < M ∧ Q (c i) = true) → (∀ i j, i < j → j < n → B i = true → B j = true → c i ≠ c j) → cnt B n ≤ cnt Q M
  | 0, B, Q, _, _ => Nat.zero_le _
  | n + 1, B, Q, h1, h2 => by
    show cnt B n + (if B n = true then 1 else 0) ≤ cnt Q M
    by_cases hB : B n = true
    · obtain ⟨a, b⟩ := h1 n (by omega) hB
      have hd := cnt_del (B := Q) b M
      rw [if_pos a] at hd
      have := cnt_inj n B (fun i => Q i && !decide (i = c n)) (fun i hi hb => by
        obtain ⟨x, y⟩ := h1 i (by omega) hb
        have := h2 i n hi (by omega) hb hB
        refine ⟨x, ?_⟩
        rw [y]; simp [this]) (fun i j hij hj => h2 i j hij (by omega))
      rw [if_pos hB]
      omega
    · rw [if_neg hB]
      exact cnt_inj n B Q (fun i hi => h1 i (by omega)) (fun i j hij hj => h2 i j hij (by omega))
theorem cnt_add (B : Nat → Bool) (a : Nat) : ∀ b, cnt B (a + b) = cnt B a + cnt (fun i => B (a + i)) b
  | 0 => rfl
  | b + 1 => by
    show cnt B (a + b) + (if B (a + b) = true then 1 else 0) = cnt B a + (cnt (fun i => B (a + i)) b + (if B (a + b) = true then 1 else 0))
    rw [cnt_add B a b]; omega
theorem block : ∀ g, g < 32 → ∀ l, l < 5 → g.testBit l = true → cnt (fun s => decide (s &&& g = s) && !s.testBit l) 32 ≤ 2 ^ (pop g - 1) := by decide +kernel
def QL (w : Nat → Nat) (g c : Nat) : Bool := decide (w (4 + c / 32) ≠ 9) && (g.testBit (w (4 + c / 32)) && (decide (c % 32 &&& g = c % 32) && !(c % 32).testBit (w (4 + c / 32))))
theorem QL_b (w : Nat → Nat) (g q : Nat) {s : Nat} (hs : s < 32) : QL w g (32 * q + s) = (decide (w (4 + q) ≠ 9) && (g.testBit (w (4 + q)) && (decide (s &&& g = s) && !s.testBit (w (4 + q))))) := by
  unfold QL
  rw [show (32 * q + s) / 32 = q by omega, show (32 * q + s) % 32 = s by omega]
theorem QL_cnt {w : Nat → Nat} (hV : WV w) {g : Nat} (hg : g < 32) : ∀ q, q ≤ w 0 → cnt (QL w g) (32 * q) ≤ lions w q * 2 ^ (pop g - 1)
  | 0, _ => Nat.zero_le _
  | q + 1, hq => by
    have ih := QL_cnt hV hg q (by omega)
    have hl := (hV.2.2.2.2.1 q (by omega)).1
    rw [show 32 * (q + 1) = 32 * q + 32 by omega, cnt_add]
    show _ ≤ (lions w q + (if w (4 + q) = 9 then 0 else 1)) * 2 ^ (pop g - 1)
    rw [Nat.add_mul]
    have hb : cnt (fun i => QL w g (32 * q + i)) 32 ≤ (if w (4 + q) = 9 then 0 else 1) * 2 ^ (pop g - 1) := by
      by_cases h9 : w (4 + q) = 9
      · rw [cnt_0 32 (fun i hi => by rw [QL_b w g q hi, h9]; rfl)]; exact Nat.zero_le _
      · rw [if_neg h9, Nat.one_mul]
        by_cases hgl : g.testBit (w (4 + q)) = true
        · rw [cnt_cong (C := fun s => decide (s &&& g = s) && !s.testBit (w (4 + q))) 32 (fun i hi => by rw [QL_b w g q hi, hgl]; simp [h9])]
          exact block g hg _ (by omega) hgl
        · rw [cnt_0 32 (fun i hi => by rw [QL_b w g q hi]; simp [hgl])]; exact Nat.zero_le _
    omega
theorem sub_bit {s g l : Nat} (h : s &&& g = s) (hb : s.testBit l = true) : g.testBit l = true := by
  have := congrArg (fun x => x.testBit l) h
  simp only [Nat.testBit_and, hb, Bool.true_and] at this
  exact this
theorem pop_sub : ∀ g, g < 32 → ∀ s, s < 32 → s &&& g = s → pop s ≤ pop g := by decide +kernel
theorem pop_or : ∀ a, a < 32 → ∀ t, t < 5 → pop (a ||| 2 ^ t) ≤ pop a + 1 := by decide +kernel
theorem pop_gifts {w : Nat → Nat} : ∀ h, (∀ i, i < h → w (58 + i) < 5) → pop (gifts w h) ≤ h
  | 0, _ => (by decide : pop 0 ≤ 0)
  | h + 1, hh => by
    have h1 := pop_gifts h (fun i hi => hh i (by omega))
    have h2 := pop_or _ (gifts_lt h (fun i hi => hh i (by omega))) _ (hh h (by omega))
    show pop (gifts w h ||| 2 ^ w (58 + h)) ≤ h + 1
    omega
theorem lions_le {w : Nat → Nat} (h4 : w 4 = 9) : ∀ q, lions w (q + 1) ≤ q
  | 0 => by
    show 0 + (if w 4 = 9 then 0 else 1) ≤ 0
    rw [if_pos h4]; exact Nat.le_refl _
  | q + 1 => by
    have := lions_le h4 q
    show lions w (q + 1) + (if w (4 + (q + 1)) = 9 then 0 else 1) ≤ q + 1
    split <;> omega
theorem nums : ∀ L, L < 8 → ∀ G, G < 6 → 7 * L + 7 * G + 9 ≤ 62 → L * 2 ^ (G - 1) + G ≤ 40 := by decide
theorem tk_bit : ∀ s, s < 32 → ∀ t, t < 5 → s.testBit t = true → (s - 2 ^ t).testBit t = false := by decide +kernel
/-- takings, asks, hours -/
theorem wy_cnt {w : Nat → Nat} (hV : WV w) {H t e p0 s0 n : Nat} {σ K P S : Nat → Nat} (hW : Wy w H t e p0 s0 n σ K P S) (hp0 : p0 < 7) (hs0 : s0 < 32) (hg : s0 &&& gifts w (w 2) = s0) : ∀ i, i ≤ n →
    S i &&& gifts w (w 2) = S i ∧ pop (S i) + cnt (fun j => decide (1 ≤ σ j ∧ σ j < 11 ∧ w (4 + P (j + 1)) ≠ 9)) i + K i ≥ pop s0 + i ∧ (cnt (fun j => decide (1 ≤ σ j ∧ σ j < 11 ∧ w (4 + P (j + 1)) ≠ 9)) i = 0 ∨ 0 < w 1)
  | 0, _ => ⟨by rw [hW.1.2.2]; exact hg, by rw [hW.1.2.2]; omega, Or.inl rfl⟩
  | i + 1, hi => by
    obtain ⟨a1, a2, a3⟩ := wy_cnt hV hW hp0 hs0 hg i (by omega)
    have hs := (wy_S hV hW hp0 hs0 (i := i) (by omega)).2
    have hG := gifts_lt (w 2) (fun i hi => (hV.2.2.2.2.2.2.2 i hi).2.1)
    have h := (hW.2.1 i (by omega)).1
    have h9 := hV.2.1
    show _ ∧ pop (S (i + 1)) + (cnt _ i + (if decide (1 ≤ σ i ∧ σ i < 11 ∧ w (4 + P (i + 1)) ≠ 9) = true then 1 else 0)) + K (i + 1) ≥ _ ∧ (cnt _ i + (if decide (1 ≤ σ i ∧ σ i < 11 ∧ w (4 + P (i + 1)) ≠ 9) = true then 1 else 0) = 0 ∨ _)
    rcases h with ⟨h1, h2, h3, h4, h5⟩ | ⟨r, h1, h2, h3, h4, h5⟩ | ⟨g, h1, h2, h3, h4, h5, h6⟩
    · rw [if_neg (by rw [decide_eq_true_eq]; omega), h5, h3]
      exact ⟨a1, by omega, by simpa using a3⟩
    · obtain ⟨-, -, -, hl1, -⟩ := hV.2.2.2.2.2.2.1 r h2
      obtain ⟨w1, w2⟩ := sWalk_ent hV h2 h5
      rcases sEnt_pop hV w2 hs w1 with ⟨q1, q2⟩ | ⟨q1, q2, q3, q4⟩
      · rw [if_neg (by rw [decide_eq_true_eq]; omega), q2]
        exact ⟨a1, by omega, by simpa using a3⟩
      · rw [if_pos (by rw [decide_eq_true_eq]; omega)]
        refine ⟨by rw [q3]; exact tk_sub _ hs _ hG _ q1 a1 q2, by omega, Or.inr (by omega)⟩
    · obtain ⟨e1, e2, -⟩ := sGive_eq h6
      have h5' := (hV.2.2.2.2.2.2.2 g h2).2.1
      have hpp := (sGive_in hV h2 hs h6).2.1
      rw [if_neg (by rw [decide_eq_true_eq]; omega)]
      refine ⟨by rw [e2]; exact gv_sub _ hs _ hG _ h5' a1 e1 (gifts_bit (w 2) g h2), by omega, by simpa using a3⟩
theorem wy_100 {w : Nat → Nat} (hV : WV w) {H t e p0 s0 n : Nat} {σ K P S : Nat → Nat} (hW : Wy w H t e p0 s0 n σ K P S) (hp0 : p0 < 7) (hs0 : s0 < 32) (hg : s0 &&& gifts w (w 2) = s0) (he : e ≤ 60) (hw0 : 0 < w 0) (hcost : cost w ≤ 62) : n ≤ 100 := by
  have h7 := hV.1
  have h9 := hV.2.1
  have h6 := hV.2.2.1
  have hG := gifts_lt (w 2) (fun i hi => (hV.2.2.2.2.2.2.2 i hi).2.1)
  obtain ⟨a1, a2, a3⟩ := wy_cnt hV hW hp0 hs0 hg n (Nat.le_refl _)
  have hSn := (wy_S hV hW hp0 hs0 (Nat.le_refl n)).2
  have hpn := pop_sub _ hG _ hSn a1
  have hpg := pop_gifts (w 2) (fun i hi => (hV.2.2.2.2.2.2.2 i hi).2.1)
  have hp5 := pop_le _ hG
  have hKn := hW.2.2.1.1
  have hT : cnt (fun j => decide (1 ≤ σ j ∧ σ j < 11 ∧ w (4 + P (j + 1)) ≠ 9)) n ≤ cnt (QL w (gifts w (w 2))) (32 * w 0) := by
    apply cnt_inj (c := fun j => 32 * P (j + 1) + S (j + 1))
    · intro i hi hb
      rw [decide_eq_true_eq] at hb
      have hs := (wy_S hV hW hp0 hs0 (i := i) (by omega)).2
      have hs' := (wy_S hV hW hp0 hs0 (i := i + 1) (by omega)).2
      have h := (hW.2.1 i hi).1
      have hin := Sp_in hV hs h
      refine ⟨by omega, ?_⟩
      rw [QL_b w _ _ hs']
      have hsub := (wy_cnt hV hW hp0 hs0 hg i (by omega)).1
      have hsub' := (wy_cnt hV hW hp0 hs0 hg (i + 1) (by omega)).1
      rcases h with ⟨h1, -⟩ | ⟨r, h1, h2, h3, h4, h5⟩ | ⟨g, h1, -⟩
      · omega
      · obtain ⟨w1, w2⟩ := sWalk_ent hV h2 h5
        rcases sEnt_pop hV w2 hs w1 with ⟨q1, q2⟩ | ⟨q1, q2, q3, q4⟩
        · exact absurd q1 hb.2.2
        · rw [sub_bit hsub q2, decide_eq_true hb.2.2, decide_eq_true hsub', q3, tk_bit _ hs _ q1 q2]; rfl
      · omega
    · intro i j hij hj hb hb' hc
      rw [decide_eq_true_eq] at hb hb'
      have hs1 := (wy_S hV hW hp0 hs0 (i := i + 1) (by omega)).2
      have hs2 := (wy_S hV hW hp0 hs0 (i := j + 1) (by omega)).2
      exact wy_B hV hW hp0 hs0 hij hj (by omega) (by omega) (by omega)
  have hQ := QL_cnt hV hG (w 0) (Nat.le_refl _)
  unfold cost at hcost
  have hL : lions w (w 0) + 1 ≤ w 0 := by
    have := lions_le (w := w) (hV.2.2.2.2.2.1 hw0).1 (w 0 - 1)
    rw [show w 0 - 1 + 1 = w 0 by omega] at this
    omega
  rcases a3 with z | z
  · rw [z] at a2; omega
  · have := nums (lions w (w 0)) (by omega) (pop (gifts w (w 2))) (by omega) (by omega)
    omega
end
