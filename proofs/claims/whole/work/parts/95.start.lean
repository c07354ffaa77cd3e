section
/-! the fresh object; the law's body, whole -/
theorem inv_0 {tl : Nat → Int32} (h : m_X6_clean (fun _ => 0) = some tl) : Inv WayOK 0 zO zO (st zO 0 7 (-9)) zO zO zO zO zO zO 0 (upR zO 1 tl) 0 := by
  obtain ⟨t, h1, h2⟩ := cleanT (fun _ => 0)
  have ht : tl = t := Option.some.inj (h.symm.trans h1)
  subst ht
  refine ⟨⟨0, fun _ => 0, ⟨by omega, fun i hi => by omega⟩, by omega, rfl, rfl, fun i hi => by omega, fun i hi => by omega⟩, ⟨w0, ⟨w0V, w0C rfl rfl rfl rfl, by rw [upR_eq]; exact h2.wm w0V, Or.inl rfl⟩, ⟨fun _ => 0, ⟨⟨Or.inr ⟨rfl, rfl⟩, show 0 ≤ 9999 by omega, show 0 < 32 by omega, Nat.zero_and _⟩, show 0 ≤ 12 by omega, fun k hk => absurd hk (Nat.not_lt_zero k)⟩, ⟨rfl, rfl, rfl, rfl, fun k hk => absurd hk (Nat.not_lt_zero k)⟩, ⟨rfl, rfl, rfl, rfl, fun k hk => absurd hk (Nat.not_lt_zero k)⟩⟩, ⟨0, fun _ => 0, by omega, rfl, rfl, fun z => by omega⟩, ⟨0, fun _ => 0, by omega, rfl, rfl, fun z => by omega⟩, wayOK_n _ _⟩, ⟨0, fun _ => 0, 0, fun _ => 0, ⟨⟨by omega, fun k hk => by omega⟩, rfl, rfl, fun k hk => by omega, fun k hk => by omega⟩, ⟨by omega, fun k hk => by omega⟩, rfl, rfl, fun k hk => by omega, fun k hk => by omega⟩, rfl⟩
theorem whole_start {p : Program} {e : Env} {s : State} {m : MethodId} {below : List Frame} {meth : Method} {c : Code} (l : Launch) (_ : l.flags = flags0) {b L : Nat} {xs : Nat → Int32} (hL : L ≤ 256) (C0 : lw_At p s m meth c b L xs) : W p l e room_1 s m #[Value.ref b] below meth c s.heap [] 0 0 (lw_Z below #[Value.ref b] s) (entryFrame m ([Value.ref b] : List Value).toArray 4) := by
  obtain ⟨t, h1, -⟩ := cleanT (fun _ => 0)
  exact start_inv l hL C0 (Inv WayOK) (ls_0 _) (ls_1 _) (ls_2 _ wayOK_n) (ls_3 _) (ls_4 _) (ls_5 _) (ls_6 _) (ls_7 _) (ls_8 _) (ls_9 _) (ls_10 _) ls_11 (ls_12 _ (fun w v g h => h.kp (Kp.up v (by omega) (by omega) g))) ls_13 ls_14 (ls_15 _) (ls_16 _) (ls_17 _) (ls_18 _) (ls_19 _) (ls_20 _) (ls_21 _) (ls_22 _) (ls_23 _) (ls_24 _) (ls_25 _) (ls_d _) t h1 (inv_0 h1)
end
