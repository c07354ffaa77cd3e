/-! THE STATE IN NUMBERS. w: the tale (as the reference lays it in its row of 70; 24 where no gate opens), z: the journey (place, hour, things, how many may be undone, then those by threes). -/
def gI (x : Nat) : Int32 := if x = 24 then -9 else nI x
def WV (w : Nat → Nat) : Prop := w 0 ≤ 7 ∧ w 1 ≤ 9 ∧ w 2 ≤ 6 ∧ w 3 ≤ 6 ∧ (∀ p, p < w 0 → (w (4 + p) < 5 ∨ w (4 + p) = 9) ∧ w (11 + p) ≤ 24 ∧ 1 ≤ w (18 + p) ∧ w (18 + p) ≤ 24) ∧ (0 < w 0 → w 4 = 9 ∧ w 11 = 24) ∧ (∀ r, r < w 1 → w (25 + r) < w 0 ∧ w (34 + r) < w 0 ∧ w (25 + r) ≠ w (34 + r) ∧ 1 ≤ w (43 + r) ∧ w (43 + r) ≤ 9) ∧ ∀ h, h < w 2 → w (52 + h) < w 0 ∧ w (58 + h) < 5 ∧ (w (64 + h) < 5 ∨ w (64 + h) = 9)
/-- the reference's tale -/
def WM (w : Nat → Nat) (t : Nat → Int32) : Prop := t 0 = nI (w 0) ∧ t 1 = nI (w 1) ∧ t 2 = nI (w 2) ∧ t 3 = nI (w 3) ∧ (∀ p, p < w 0 → t (4 + p) = nI (w (4 + p)) ∧ t (11 + p) = gI (w (11 + p)) ∧ t (18 + p) = nI (w (18 + p))) ∧ (∀ r, r < w 1 → t (25 + r) = nI (w (25 + r)) ∧ t (34 + r) = nI (w (34 + r)) ∧ t (43 + r) = nI (w (43 + r))) ∧ ∀ h, h < w 2 → t (52 + h) = nI (w (52 + h)) ∧ t (58 + h) = nI (w (58 + h)) ∧ t (64 + h) = nI (w (64 + h))
/-- the class's world -/
def WC (w : Nat → Nat) (v : Ob) : Prop := v 0 0 = nI (w 0) ∧ v 0 1 = nI (w 1) ∧ v 0 2 = nI (w 2) ∧ v 0 3 = nI (w 3) ∧ (∀ p, p < w 0 → v 5 p = nI (w (4 + p)) ∧ v 6 p = gI (w (11 + p)) ∧ v 7 p = nI (w (18 + p))) ∧ (∀ r, r < w 1 → v 8 r = nI (w (25 + r)) ∧ v 9 r = nI (w (34 + r)) ∧ v 10 r = nI (w (43 + r))) ∧ ∀ h, h < w 2 → v 11 h = nI (w (52 + h)) ∧ v 12 h = nI (w (58 + h)) ∧ v 13 h = nI (w (64 + h))
/-- the gifts, as bits -/
def gifts (w : Nat → Nat) : Nat → Nat
  | 0 => 0
  | h + 1 => gifts w h ||| 2 ^ (w (58 + h))
/-- how many lions -/
def lions (w : Nat → Nat) : Nat → Nat
  | 0 => 0
  | p + 1 => lions w p + (if w (4 + p) = 9 then 0 else 1)
/-- what a tale costs in bytes, at least -/
def cost (w : Nat → Nat) : Nat := 2 * w 0 + 7 * w 1 + 7 * w 2 + 5 * lions w (w 0)
/-- a moment of the journey: place, hour, things -/
def MV (w : Nat → Nat) (p h t : Nat) : Prop := (p < w 0 ∨ (w 0 = 0 ∧ p = 0)) ∧ h ≤ 9999 ∧ t < 32 ∧ t &&& gifts w (w 2) = t
def SV (w z : Nat → Nat) : Prop := MV w (z 0) (z 1) (z 2) ∧ z 3 ≤ 12 ∧ ∀ k, k < z 3 → MV w (z (4 + 3 * k)) (z (5 + 3 * k)) (z (6 + 3 * k))
def SM (z : Nat → Nat) (he : Nat → Int32) (d : Nat) : Prop := he d = nI (z 0) ∧ he (d + 1) = nI (z 1) ∧ he (d + 2) = nI (z 2) ∧ he (d + 3) = nI (z 3) ∧ ∀ k, k < z 3 → he (d + (4 + 3 * k)) = nI (z (4 + 3 * k)) ∧ he (d + (5 + 3 * k)) = nI (z (5 + 3 * k)) ∧ he (d + (6 + 3 * k)) = nI (z (6 + 3 * k))
def SC (z : Nat → Nat) (v : Ob) : Prop := v 0 0 = nI (z 0) ∧ v 0 1 = nI (z 1) ∧ v 0 2 = nI (z 2) ∧ v 0 3 = nI (z 3) ∧ ∀ k, k < z 3 → v 6 k = nI (z (4 + 3 * k)) ∧ v 7 k = nI (z (5 + 3 * k)) ∧ v 8 k = nI (z (6 + 3 * k))
/-- the text: n bytes x -/
def TV (n : Nat) (x : Nat → Nat) : Prop := n ≤ 200 ∧ ∀ k, k < n → x k < 256
def TR (n : Nat) (x : Nat → Nat) (v : Nat → Int32) : Prop := ∀ k, k < n → v k = nI (x k)
/-- pairs: swaps or tastes, c of them -/
def PV (c : Nat) (x : Nat → Nat) : Prop := c ≤ 6 ∧ ∀ k, k < 2 * c → x k < 5
def PM (c : Nat) (x : Nat → Nat) (v : Nat → Int32) : Prop := ∀ k, k < c → v (2 * k) = nI (x (2 * k)) ∧ v (2 * k + 1) = nI (x (2 * k + 1))
def PC (c : Nat) (x : Nat → Nat) (v u : Nat → Int32) : Prop := ∀ k, k < c → v k = nI (x (2 * k)) ∧ u k = nI (x (2 * k + 1))
