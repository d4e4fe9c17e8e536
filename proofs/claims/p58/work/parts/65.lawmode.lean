-- ===== the law's own body =====
abbrev ML_law : hq_M := (yL_law, cL_law, 8, ret)
def hq_GL (bs L : Nat) (xs : Nat → Int32) (n : Nat) : hq_G := fun p l e R s m args below meth c D cy b cells slots Q =>
  hq_NN s ∧ meth.sig.returnType = ret ∧ meth.locks = false ∧ va_X bs L xs s s.heap ∧ bs < s.heap.size ∧ s.heap.size ≤ b ∧ cells ≤ 1000 + n ∧ slots ≤ 100000 + 6 * n ∧ n ≤ 5000 ∧ R = room_1 ∧ args = #[Value.ref bs] ∧ Q = lw_Z below #[Value.ref bs] s
section HL
variable {bs L : Nat} {xs : Nat → Int32} {n d pc : Nat} {K : hq_C}
/-- the law's end, with true -/
def hk_yes : hq_C := fun _ st _ => st = [.inl (.int 1)]
theorem hs_yes (hd : decode cL_law pc = .ok (.ireturn, 1)) : hq_S (hq_GL bs L xs n) ML_law d pc hk_yes := by
  intro ls st h hh
  have hh : st = [.inl (.int 1)] := hh
  subst hh
  intro p l e R s m args below meth c D cy b H locs la cells slots Q C g hP hS hL hst hls
  obtain ⟨g1, g2, g3, g4, g5, g6, g7, g8, g9, rfl, rfl, rfl⟩ := g
  refine va_forget (fun q hq => Nat.le_trans g6 (hS.2.2 q hq)) ?_
  refine W.widen (k := 600130) (n := 7301080) (by omega) (by omega) ?_
  exact lw_ret C.1 C.2.1 g2 g3 hd
theorem hq_gvL (hn : n + 1 ≤ 5000) : hq_gv (hq_GL bs L xs n) (hq_GL bs L xs (n + 1)) hq_XN 1 := fun p l e R s m args below meth c D cy b cells slots Q h1 h2 g => by
  obtain ⟨g1, g2, g3, g4, g5, g6, g7, g8, g9, rfl, rfl, rfl⟩ := g
  exact ⟨⟨g1, g2, g3, g4, g5, g6, by omega, by omega, hn, rfl, rfl, rfl⟩, ⟨by show cells + 1 ≤ 600130; omega, by show slots + 6 * 1 ≤ 7301080; omega⟩, fun H locs U hS hU hW q hq => va_Nc.moved hW.alike (g1 q hq)⟩
theorem hq_gvC (bs L : Nat) (xs : Nat → Int32) (n : Nat) : hq_gv (hq_GL bs L xs n) (hq_GL bs L xs n) (hq_XS bs L xs) 0 := fun p l e R s m args below meth c D cy b cells slots Q h1 h2 g => by
  refine ⟨g, ⟨h1, h2⟩, fun H locs U hS hU hW => ?_⟩
  obtain ⟨g1, g2, g3, g4, g5, g6, g7, g8, g9, rfl, rfl, rfl⟩ := g
  subst hU
  exact ⟨(va_X.moved hW.alike g4).kept (hS.2.1 bs g5 (Nat.not_le.mpr (Nat.lt_of_lt_of_le g5 g6))), Nat.lt_of_lt_of_le g5 hS.1, Nat.lt_of_lt_of_le g5 g6⟩
end HL
