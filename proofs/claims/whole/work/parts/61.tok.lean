/-! PURE: one token, by both readers -/
/-- what of the reference's object the reading leaves alone -/
def FM (a b : Ob) : Prop := (∀ r, r ≠ 0 → r ≠ 2 → b r = a r) ∧ ∀ c, c < 12 → b 0 c = a 0 c
theorem FM.refl (a : Ob) : FM a a := ⟨fun _ _ _ => rfl, fun _ _ => rfl⟩
theorem FM.trans {a b c : Ob} (h : FM a b) (h2 : FM b c) : FM a c := ⟨fun r h0 h3 => (h2.1 r h0 h3).trans (h.1 r h0 h3), fun i hi => (h2.2 i hi).trans (h.2 i hi)⟩
theorem FM.st0 (a : Ob) {c : Nat} (v : Int32) (h : 12 ≤ c) : FM a (st a 0 c v) := ⟨fun _ h0 _ => st_row_ne _ _ _ h0, fun i hi => by rw [st_get, if_neg (by omega)]⟩
theorem FM.st2 (a : Ob) (c : Nat) (v : Int32) : FM a (st a 2 c v) := ⟨fun _ _ h2 => st_row_ne _ _ _ h2, fun i hi => by rw [st_get, if_neg (by omega)]⟩
/-- kind k and value v of a token from b to e, as the class has it (a), as the reference has it (t, u) -/
def TKC (x : Nat → Nat) (n b e k v : Nat) (a t u : Int32) : Prop :=
  (k = 0 ∧ t = 0 ∧ b = n) ∨ (k = 1 ∧ t = 1 ∧ a = nI v ∧ u = nI v ∧ v < 256 ∧ v ≠ 0 ∧ b + 1 ≤ e) ∨
  (k = 2 ∧ t = 2 ∧ a = nI v ∧ u = nI v ∧ v ≤ 99 ∧ b < n ∧ isD (x b) = true ∧ b + 1 ≤ e ∧ (e = n ∨ isD (x e) = false)) ∨
  (k = 3 ∧ t = 3 ∧ b + 1 ≤ e) ∨ (k = 4 ∧ (t = 4 ∨ (t = 1 ∧ u = 0)) ∧ b + 1 ≤ e)
theorem L107_s (f : Nat) (V : Ob) (c : Int32) : m_X6_next_L107 (f + 1) V c = m_X6_next_L107B (m_X6_next_L107 f) V c := rfl
theorem L158_s (f : Nat) (V : Ob) (c : Int32) : m_X6_next_L158 (f + 1) V c = m_X6_next_L158B (m_X6_next_L158 f) V c := rfl
theorem L107_n {V : Ob} (c : Int32) (h : ¬ V 0 14 = 1) : m_X6_next_L107 FU V c = some (V, c) := by
  rw [show FU = 999 + 1 from rfl, L107_s]; unfold m_X6_next_L107B; rw [if_neg h]
theorem L158_n {V : Ob} (c : Int32) (h : ¬ V 0 14 = 2) : m_X6_next_L158 FU V c = some (V, c) := by
  rw [show FU = 999 + 1 from rfl, L158_s]; unfold m_X6_next_L158B; rw [if_neg h]
/-- the reference's token that isn't a word or a number -/
theorem nxt_o {V : Ob} {c k : Int32} {b : Nat} (h12 : V 0 12 = nI b) (h1 : ¬ k = 1) (h2 : ¬ k = 2) : ∃ V', m_X6_next_j77 V c k = some V' ∧ FM V V' ∧ V' 2 = V 2 ∧ V' 0 16 = V 0 16 ∧ V' 0 12 = (if k ≤ 2 then nI b else nI (b + 1)) ∧ V' 0 13 = V 0 13 ∧ V' 0 14 = k := by
  have key : ∀ s : Int32, ∃ V', m_X6_next_j103 (st (st V 0 14 k) 0 15 0) c (nI b) s = some V' ∧ FM V V' ∧ V' 2 = V 2 ∧ V' 0 16 = V 0 16 ∧ V' 0 12 = nI b + s ∧ V' 0 13 = V 0 13 ∧ V' 0 14 = k := by
    intro s
    unfold m_X6_next_j103
    rw [L107_n c (show ¬ (st (st (st V 0 14 k) 0 15 0) 0 12 (nI b + s)) 0 14 = 1 from h1), bnd_s, L158_n c (show ¬ (st (st (st V 0 14 k) 0 15 0) 0 12 (nI b + s)) 0 14 = 2 from h2), bnd_s, if_neg (show ¬ (st (st (st V 0 14 k) 0 15 0) 0 12 (nI b + s)) 0 14 = 2 from h2)]
    unfold m_X6_next_j264 m_X6_next_j265
    rw [if_pos rfl]
    exact ⟨_, rfl, (((FM.st0 V k (by omega)).trans (FM.st0 _ 0 (by omega))).trans (FM.st0 _ _ (by omega))).trans (FM.st0 _ _ (by omega)), rfl, rfl, rfl, rfl, rfl⟩
  unfold m_X6_next_j77
  rw [h12]
  by_cases hk : k ≤ 2
  · rw [if_pos hk, if_pos hk]
    obtain ⟨V', a1, a2, a3, a4, a5, a6, a7⟩ := key 0
    exact ⟨V', a1, a2, a3, a4, by rw [a5]; exact nI_add b 0, a6, a7⟩
  · rw [if_neg hk, if_neg hk]
    obtain ⟨V', a1, a2, a3, a4, a5, a6, a7⟩ := key 1
    exact ⟨V', a1, a2, a3, a4, by rw [a5]; exact nI_1 b, a6, a7⟩
/-- the reference's word -/
theorem nxt_l {x : Nat → Nat} {n b : Nat} {V : Ob} (hV : TV n x) (hT : TR n x (V 6)) (hbn : b < n) (h6 : V 0 6 = nI n) (h12 : V 0 12 = nI b) (h13 : V 0 13 = nI b) (hl : isL (x b) = true) : ∃ V', m_X6_next_j77 V (nI (x b)) 1 = some V' ∧ FM V V' ∧ V' 2 = V 2 ∧ V' 0 16 = V 0 16 ∧ V' 0 12 = nI (run isL x n (b + 1)) ∧ V' 0 13 = V 0 13 ∧ V' 0 14 = 1 ∧ V' 0 15 = if run isL x n (b + 1) = b + 1 then nI (x b) else 0 := by
  have h200 := hV.1
  have hx := hV.2 b hbn
  unfold m_X6_next_j77 m_X6_next_j103
  rw [if_pos (by decide), h12, show nI b + (0 : Int32) = nI b from nI_add b 0, show m_X6_next_L107 FU = m_X6_next_L107 (999 + 1) from rfl, L107_s]
  unfold m_X6_next_L107B m_X6_next_j142
  rw [if_pos (show (st (st (st V 0 14 1) 0 15 0) 0 12 (nI b)) 0 14 = 1 from rfl), hereM hV (show TR n x ((st (st (st V 0 14 1) 0 15 0) 0 12 (nI b)) 6) from hT) (show (st (st (st V 0 14 1) 0 15 0) 0 12 (nI b)) 0 6 = nI n from h6) (show (st (st (st V 0 14 1) 0 15 0) 0 12 (nI b)) 0 12 = nI b from rfl) (by omega), bnd_s, if_pos hbn, isLetterM hx, bnd_s, if_bi, if_pos hl, show (st (st (st V 0 14 1) 0 15 0) 0 12 (nI b)) 0 12 = nI b from rfl, if_pos (show nI b = (st (st (st V 0 14 1) 0 15 0) 0 12 (nI b)) 0 13 from h13.symm), nI_1, tkM1 (b := b) (nI (x b)) hV 999 (b + 1) (st (st (st (st (st V 0 14 1) 0 15 0) 0 12 (nI b)) 0 15 (nI (x b))) 0 12 (nI (b + 1))) (show TR n x (V 6) from hT) (by omega) (by omega) (by omega) h6 rfl h13 rfl, bnd_s, L158_n _ (show ¬ (1 : Int32) = 2 by decide), bnd_s]
  unfold m_X6_next_j264 m_X6_next_j265
  refine ⟨_, (if_neg (show ¬ (1 : Int32) = 2 by decide)).trans rfl, ?_, rfl, rfl, rfl, rfl, rfl, rfl⟩
  exact (((((((FM.st0 V 1 (by omega)).trans (FM.st0 _ _ (by omega))).trans (FM.st0 _ _ (by omega))).trans (FM.st0 _ _ (by omega))).trans (FM.st0 _ _ (by omega))).trans (FM.st0 _ _ (by omega))).trans (FM.st0 _ _ (by omega))).trans (FM.st0 _ _ (by omega))
/-- the reference's number -/
theorem nxt_d {x : Nat → Nat} {n b : Nat} {V : Ob} (hV : TV n x) (hT : TR n x (V 6)) (hbn : b < n) (h6 : V 0 6 = nI n) (h12 : V 0 12 = nI b) (h13 : V 0 13 = nI b) (hd : isD (x b) = true) : ∃ V', m_X6_next_j77 V (nI (x b)) 2 = some V' ∧ FM V V' ∧ V' 2 = V 2 ∧ V' 0 16 = V 0 16 ∧ V' 0 12 = nI (run isD x n (b + 1)) ∧ V' 0 13 = V 0 13 ∧ (run isD x n (b + 1) = b + 1 → V' 0 14 = 2 ∧ V' 0 15 = nI (x b - 48)) ∧ (run isD x n (b + 1) = b + 2 ∧ x b ≠ 48 → V' 0 14 = 2 ∧ V' 0 15 = nI (10 * (x b - 48) + (x (b + 1) - 48))) ∧ (¬ run isD x n (b + 1) = b + 1 → ¬ (run isD x n (b + 1) = b + 2 ∧ x b ≠ 48) → V' 0 14 = 4) := by
  have h200 := hV.1
  have hx := hV.2 b hbn
  have hd' := isD_b hd
  obtain ⟨hr1, hr2, -⟩ := run_facts (P := isD) (x := x) (n := n) _ (b + 1) (by omega) rfl
  have hd2 : run isD x n (b + 1) = b + 2 → isD (x (b + 1)) = true := fun q => by
    cases hc : isD (x (b + 1)) with
    | true => rfl
    | false => rw [run_stop (by omega) hc] at q; omega
  unfold m_X6_next_j77 m_X6_next_j103
  rw [if_pos (by decide), h12, show nI b + (0 : Int32) = nI b from nI_add b 0, L107_n _ (show ¬ (2 : Int32) = 1 by decide), bnd_s, show m_X6_next_L158 FU = m_X6_next_L158 (999 + 1) from rfl, L158_s]
  unfold m_X6_next_L158B m_X6_next_j208
  have e : (10 : Int32) * (st (st (st V 0 14 2) 0 15 0) 0 12 (nI b)) 0 15 + nI (x b) - 48 = nI (x b - 48) := by
    show (10 : Int32) * nI 0 + nI (x b) - 48 = _
    rw [show (10 : Int32) = nI 10 from rfl, pk_mul, nI_add, show (48 : Int32) = nI 48 from rfl, pk_sub (by omega)]
    congr 1; omega
  rw [if_pos (show (st (st (st V 0 14 2) 0 15 0) 0 12 (nI b)) 0 14 = 2 from rfl), hereM hV (show TR n x ((st (st (st V 0 14 2) 0 15 0) 0 12 (nI b)) 6) from hT) (show (st (st (st V 0 14 2) 0 15 0) 0 12 (nI b)) 0 6 = nI n from h6) (show (st (st (st V 0 14 2) 0 15 0) 0 12 (nI b)) 0 12 = nI b from rfl) (by omega), bnd_s, bnd_s, if_pos hbn, isFigureM hx, bnd_s, if_bi, if_pos hd, if_pos (show (st (st (st V 0 14 2) 0 15 0) 0 12 (nI b)) 0 15 ≤ 99 by show (0 : Int32) ≤ 99; decide), e]
  dsimp only
  rw [show (st (st (st V 0 14 2) 0 15 0) 0 12 (nI b)) 0 12 = nI b from rfl, nI_1]
  obtain ⟨u, hu, a1, a2, a3, a4, a5, a6⟩ := tkM2 (nI (x b)) hV 999 (b + 1) (x b - 48) (st (st (st (st (st V 0 14 2) 0 15 0) 0 12 (nI b)) 0 15 (nI (x b - 48))) 0 12 (nI (b + 1))) (show TR n x (V 6) from hT) (by omega) (by omega) h6 rfl rfl rfl (by omega)
  have fr : ∀ k : Int32, FM V (st (st (st (st (st (st (st (st V 0 14 2) 0 15 0) 0 12 (nI b)) 0 15 (nI (x b - 48))) 0 12 (nI (b + 1))) 0 15 (nI u)) 0 12 (nI (run isD x n (b + 1)))) 0 14 k) := fun k => (((((((FM.st0 V 2 (by omega)).trans (FM.st0 _ _ (by omega))).trans (FM.st0 _ _ (by omega))).trans (FM.st0 _ _ (by omega))).trans (FM.st0 _ _ (by omega))).trans (FM.st0 _ _ (by omega))).trans (FM.st0 _ _ (by omega))).trans (FM.st0 _ _ (by omega))
  rw [hu, bnd_s]
  generalize run isD x n (b + 1) = e' at *
  generalize hW : st (st (st (st (st (st (st V 0 14 2) 0 15 0) 0 12 (nI b)) 0 15 (nI (x b - 48))) 0 12 (nI (b + 1))) 0 15 (nI u)) 0 12 (nI e') = W' at *
  have w14 : W' 0 14 = 2 := by rw [← hW]; rfl
  have w15 : W' 0 15 = nI u := by rw [← hW]; rfl
  have w12 : W' 0 12 = nI e' := by rw [← hW]; rfl
  have w13 : W' 0 13 = nI b := by rw [← hW]; exact h13
  have w2 : W' 2 = V 2 := by rw [← hW]; rfl
  have w16 : W' 0 16 = V 0 16 := by rw [← hW]; rfl
  show ∃ V', (if W' 0 14 = 2 then if 99 < W' 0 15 then m_X6_next_j260 W' else if nI (x b) = 48 then if W' 0 12 - W' 0 13 ≤ 1 then m_X6_next_j264 W' else m_X6_next_j260 W' else m_X6_next_j264 W' else m_X6_next_j264 W') = some V' ∧ _
  unfold m_X6_next_j264 m_X6_next_j260 m_X6_next_j265
  rw [if_pos w14, if_pos rfl, if_neg (show ¬ (1 : Int32) = 0 by decide), w14, w12, w13, w15, pk_sub (by omega), show (99 : Int32) = nI 99 from rfl, show (48 : Int32) = nI 48 from rfl, show (1 : Int32) = nI 1 from rfl, if_nI (by omega) (by omega)]
  have ok : ∀ k : Int32, st W' 0 14 k 2 = V 2 ∧ st W' 0 14 k 0 16 = V 0 16 ∧ st W' 0 14 k 0 12 = nI e' ∧ st W' 0 14 k 0 13 = V 0 13 := fun k => ⟨w2, w16, w12, by rw [h13]; exact w13⟩
  by_cases h1 : e' = b + 1
  · have hu' := a3 h1
    rw [if_neg (nI_nlt (by omega) (by omega)), if_pos (nI_le (show e' - b ≤ 1 by omega) (by omega)), ite_self]
    exact ⟨_, rfl, fr _, (ok _).1, (ok _).2.1, (ok _).2.2.1, (ok _).2.2.2, fun _ => ⟨rfl, by show W' 0 15 = _; rw [w15, hu']⟩, fun q => by omega, fun q => absurd h1 q⟩
  · by_cases h2 : e' = b + 2 ∧ x b ≠ 48
    · have hu' := a4 h2.1 (by omega)
      have h9 : u ≤ 99 := by
        have := isD_b (hd2 h2.1)
        omega
      rw [if_neg (nI_nlt (by omega) (by omega)), if_neg h2.2]
      exact ⟨_, rfl, fr _, (ok _).1, (ok _).2.1, (ok _).2.2.1, (ok _).2.2.2, fun q => absurd q h1, fun _ => ⟨rfl, by show W' 0 15 = _; rw [w15, hu']⟩, fun _ q => absurd h2 q⟩
    · by_cases h48 : x b = 48
      · rw [if_pos h48, if_neg (nI_ge (show 1 < e' - b by omega) (by omega)), ite_self]
        exact ⟨_, rfl, fr _, (ok _).1, (ok _).2.1, (ok _).2.2.1, (ok _).2.2.2, fun q => absurd q h1, fun q => absurd q h2, fun _ _ => rfl⟩
      · have := a6 (by omega) (by omega)
        rw [if_pos (nI_lt (by omega) (by omega))]
        exact ⟨_, rfl, fr _, (ok _).1, (ok _).2.1, (ok _).2.2.1, (ok _).2.2.2, fun q => absurd q h1, fun q => absurd q h2, fun _ _ => rfl⟩

theorem FMtail {a b c : Ob} (h : FM a b) (h2 : FM b c) : FM a c := h.trans h2
/-- ONE TOKEN, by both -/
theorem tok {x : Nat → Nat} {n i : Nat} {vt : Nat → Int32} {vR vM : Ob} (hV : TV n x) (hT : TR n x vt) (hTM : TR n x (vM 6)) (hi : i ≤ n) (h2 : vR 0 2 = nI n) (h3 : vR 0 3 = nI i) (m6 : vM 0 6 = nI n) (m12 : vM 0 12 = nI i) : ∃ (vR' vM' : Ob) (b e k v : Nat), m_X1_readToken vR vt = some vR' ∧ m_X6_next vM = some vM' ∧ (vR' 0 2 = nI n ∧ vR' 0 3 = nI e ∧ vR' 0 4 = nI b ∧ vR' 0 5 = nI k ∧ vR' 0 7 = vR 0 7) ∧ FM vM vM' ∧ vM' 2 = vM 2 ∧ (vM' 0 16 = vM 0 16 ∧ vM' 0 12 = nI e ∧ vM' 0 13 = nI b) ∧ (i ≤ b ∧ b ≤ e ∧ e ≤ n) ∧ TKC x n b e k v (vR' 0 6) (vM' 0 14) (vM' 0 15) := by
  have h200 := hV.1
  obtain ⟨hb1, hb2, -⟩ := run_facts (P := isB) (x := x) (n := n) _ i hi rfl
  have c0 := tkC0 hV hT FU i vR hi (by unfold FU; omega) h2 h3
  have m0 := tkM0 hV FU i vM hTM hi (by unfold FU; omega) m6 m12
  generalize run isB x n i = b at *
  unfold m_X1_readToken m_X6_next
  rw [c0, m0, bnd_s, bnd_s, hereM hV (show TR n x ((st (st vM 0 12 (nI b)) 0 13 (st vM 0 12 (nI b) 0 12)) 6) from hTM) (show st (st vM 0 12 (nI b)) 0 13 (st vM 0 12 (nI b) 0 12) 0 6 = nI n from m6) (show st (st vM 0 12 (nI b)) 0 13 (st vM 0 12 (nI b) 0 12) 0 12 = nI b from rfl) hb2, bnd_s, show st vR 0 3 (nI b) 0 3 = nI b from rfl, show st vR 0 3 (nI b) 0 2 = nI n from h2, show st vM 0 12 (nI b) 0 12 = nI b from rfl]
  have fr : FM vM (st (st vM 0 12 (nI b)) 0 13 (nI b)) := (FM.st0 vM _ (by omega)).trans (FM.st0 _ _ (by omega))
  by_cases hbn : b < n
  · have hx := hV.2 b hbn
    rw [if_pos (nI_lt hbn (by omega)), grd_t (inb_nI (by omega) (by omega)), cl (by omega), hT b hbn, if_pos hbn, if_pos (nI_pos' (by omega)), isLetterC hx, isLetterM hx, bnd_s, bnd_s, if_bi, if_bi, nI_1]
    cases hl : isL (x b) with
    | true =>
      obtain ⟨V', a1, a2, a3, a4, a5, a6, a7, a8⟩ := nxt_l (V := st (st vM 0 12 (nI b)) 0 13 (nI b)) hV hTM hbn m6 rfl rfl hl
      obtain ⟨hr1, hr2, -⟩ := run_facts (P := isL) (x := x) (n := n) _ (b + 1) (by omega) rfl
      rw [if_pos rfl, if_pos rfl, a1, tkC1 hV hT (nI (x b)) FU (b + 1) (st (st (st (st vR 0 3 (nI b)) 0 4 (nI b)) 0 5 0) 0 3 (nI (b + 1))) (by omega) (by unfold FU; omega) h2 rfl, bnd_s]
      generalize run isL x n (b + 1) = e at *
      show ∃ vR' vM' b_1 e_1 k v, (if nI e - nI b = 1 then _ else _) = some vR' ∧ _
      rw [pk_sub (by omega), show (1 : Int32) = nI 1 from rfl, if_nI (by omega) (by omega)]
      unfold m_X1_readToken_j148
      by_cases he : e = b + 1
      · rw [if_pos (by omega)]
        rw [if_pos he] at a8
        refine ⟨_, V', b, e, 1, x b, rfl, rfl, ⟨h2, rfl, rfl, rfl, rfl⟩, fr.trans a2, a3, ⟨a4, a5, a6⟩, ⟨hb1, by omega, hr2⟩, Or.inr (Or.inl ⟨rfl, a7, rfl, a8, hx, ?_, by omega⟩)⟩
        have := isL_b hl
        omega
      · rw [if_neg (by omega)]
        rw [if_neg he] at a8
        exact ⟨_, V', b, e, 4, x b, rfl, rfl, ⟨h2, rfl, rfl, rfl, rfl⟩, fr.trans a2, a3, ⟨a4, a5, a6⟩, ⟨hb1, by omega, hr2⟩, Or.inr (Or.inr (Or.inr (Or.inr ⟨rfl, Or.inr ⟨a7, a8⟩, by omega⟩)))⟩
    | false =>
      rw [if_neg (show ¬ false = true by decide), if_neg (show ¬ false = true by decide), isDigitC hx, isFigureM hx, bnd_s, bnd_s, if_bi, if_bi]
      cases hd : isD (x b) with
      | true =>
        obtain ⟨V', a1, a2, a3, a4, a5, a6, a7⟩ := nxt_d (V := st (st vM 0 12 (nI b)) 0 13 (nI b)) hV hTM hbn m6 rfl rfl hd
        obtain ⟨hr1, hr2, hr3⟩ := run_facts (P := isD) (x := x) (n := n) _ (b + 1) (by omega) rfl
        have hd' := isD_b hd
        have hd2 : run isD x n (b + 1) = b + 2 → isD (x (b + 1)) = true := fun q => by
          cases hc : isD (x (b + 1)) with
          | true => rfl
          | false => rw [run_stop (by omega) hc] at q; omega
        obtain ⟨u, b1, b2, b3⟩ := tkC2 hV hT (nI (x b)) FU (b + 1) (st (st (st (st (st vR 0 3 (nI b)) 0 4 (nI b)) 0 5 0) 0 3 (nI (b + 1))) 0 6 (nI (x b) - 48)) (by omega) (by unfold FU; omega) h2 rfl
        rw [if_pos rfl, if_pos rfl, a1, b1, bnd_s]
        generalize run isD x n (b + 1) = e at *
        have e48 : nI (x b) - (48 : Int32) = nI (x b - 48) := by rw [show (48 : Int32) = nI 48 from rfl, pk_sub (by omega)]
        have b2' : e = b + 1 → u = nI (x b - 48) := fun q => (b2 q).trans e48
        have b3' : e = b + 1 + 1 → u = (nI (x b) - 48) * 10 + nI (x (b + 1)) - 48 := b3
        show ∃ vR' vM' b_1 e_1 k v, (if nI e - nI b = 1 then _ else (if nI e - nI b = 2 then _ else _)) = some vR' ∧ _
        rw [pk_sub (by omega), show (1 : Int32) = nI 1 from rfl, show (2 : Int32) = nI 2 from rfl, show (48 : Int32) = nI 48 from rfl, if_nI (by omega) (by omega), if_nI (by omega) (by omega), if_nI (by omega) (by omega)]
        unfold m_X1_readToken_j264 m_X1_readToken_j268 m_X1_readToken_j269
        by_cases h1 : e = b + 1
        · replace a7 := a7.1 h1
          rw [if_pos (by omega)]
          exact ⟨_, V', b, e, 2, x b - 48, rfl, rfl, ⟨h2, rfl, rfl, rfl, rfl⟩, fr.trans a2, a3, ⟨a4, a5, a6⟩, ⟨hb1, by omega, hr2⟩, Or.inr (Or.inr (Or.inl ⟨rfl, a7.1, b2' h1, a7.2, by omega, hbn, hd, by omega, hr3⟩))⟩
        · replace a7 := a7.2
          rw [if_neg (by omega)]
          by_cases h22 : e = b + 2
          · rw [if_pos (by omega)]
            by_cases h48 : x b = 48
            · replace a7 := a7.2 h1 (fun z => z.2 h48)
              rw [if_pos h48]
              exact ⟨_, V', b, e, 4, 0, rfl, rfl, ⟨h2, rfl, rfl, rfl, rfl⟩, fr.trans a2, a3, ⟨a4, a5, a6⟩, ⟨hb1, by omega, hr2⟩, Or.inr (Or.inr (Or.inr (Or.inr ⟨rfl, Or.inl a7, by omega⟩)))⟩
            · replace a7 := a7.1 ⟨h22, h48⟩
              have hdd := isD_b (hd2 h22)
              rw [if_neg h48]
              refine ⟨_, V', b, e, 2, 10 * (x b - 48) + (x (b + 1) - 48), rfl, rfl, ⟨h2, rfl, rfl, rfl, rfl⟩, fr.trans a2, a3, ⟨a4, a5, a6⟩, ⟨hb1, by omega, hr2⟩, Or.inr (Or.inr (Or.inl ⟨rfl, a7.1, ?_, a7.2, by omega, hbn, hd, by omega, hr3⟩))⟩
              show u = _
              rw [b3' h22, e48, show (10 : Int32) = nI 10 from rfl, pk_mul, nI_add, show (48 : Int32) = nI 48 from rfl, pk_sub (by omega)]
              congr 1; omega
          · replace a7 := a7.2 h1 (fun z => h22 z.1)
            rw [if_neg (by omega)]
            exact ⟨_, V', b, e, 4, 0, rfl, rfl, ⟨h2, rfl, rfl, rfl, rfl⟩, fr.trans a2, a3, ⟨a4, a5, a6⟩, ⟨hb1, by omega, hr2⟩, Or.inr (Or.inr (Or.inr (Or.inr ⟨rfl, Or.inl a7, by omega⟩)))⟩
      | false =>
        rw [if_neg (show ¬ false = true by decide), if_neg (show ¬ false = true by decide), show (59 : Int32) = nI 59 from rfl, if_nI (by omega) (by omega), if_nI (by omega) (by omega)]
        by_cases h59 : x b = 59
        · rw [if_pos h59, if_pos h59]
          obtain ⟨V', a1, a2, a3, a4, a5, a6, a7⟩ := nxt_o (V := st (st vM 0 12 (nI b)) 0 13 (nI b)) (c := nI (x b)) (k := 3) (b := b) rfl (by decide) (by decide)
          rw [if_neg (by decide)] at a5
          exact ⟨_, V', b, b + 1, 3, 0, rfl, a1, ⟨h2, rfl, rfl, rfl, rfl⟩, fr.trans a2, a3, ⟨a4, a5, a6⟩, ⟨hb1, by omega, by omega⟩, Or.inr (Or.inr (Or.inr (Or.inl ⟨rfl, a7, by omega⟩)))⟩
        · rw [if_neg h59, if_neg h59]
          obtain ⟨V', a1, a2, a3, a4, a5, a6, a7⟩ := nxt_o (V := st (st vM 0 12 (nI b)) 0 13 (nI b)) (c := nI (x b)) (k := 4) (b := b) rfl (by decide) (by decide)
          rw [if_neg (by decide)] at a5
          exact ⟨_, V', b, b + 1, 4, 0, rfl, a1, ⟨h2, rfl, rfl, rfl, rfl⟩, fr.trans a2, a3, ⟨a4, a5, a6⟩, ⟨hb1, by omega, by omega⟩, Or.inr (Or.inr (Or.inr (Or.inr ⟨rfl, Or.inl a7, by omega⟩)))⟩
  · rw [if_neg (nI_nlt (by omega) (by omega)), if_neg hbn, if_neg (by decide)]
    obtain ⟨V', a1, a2, a3, a4, a5, a6, a7⟩ := nxt_o (V := st (st vM 0 12 (nI b)) 0 13 (nI b)) (c := -1) (k := 0) (b := b) rfl (by decide) (by decide)
    rw [if_pos (by decide)] at a5
    exact ⟨_, V', b, b, 0, 0, rfl, a1, ⟨h2, rfl, rfl, rfl, rfl⟩, fr.trans a2, a3, ⟨a4, a5, a6⟩, ⟨hb1, by omega, by omega⟩, Or.inl ⟨rfl, a7, by omega⟩⟩
