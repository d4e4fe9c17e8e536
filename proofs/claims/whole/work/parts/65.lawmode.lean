-- ===== the law's own body =====
abbrev ML_law : hq_M := (yL_law, cL_law, 9, ret)
def hq_GL (bs L : Nat) (xs : Nat → Int32) (n : Nat) : hq_G := fun p l e R s m args below meth c D cy b cells slots Q =>
  hq_NN s ∧ meth.sig.returnType = ret ∧ meth.locks = false ∧ va_X bs L xs s s.heap ∧ bs < s.heap.size ∧ s.heap.size ≤ b ∧ cells ≤ 1000 + n ∧ slots ≤ 100000 + 6 * n ∧ n ≤ 5000 ∧ R = room_1 ∧ args = #[Value.ref bs] ∧ Q = lw_Z below #[Value.ref bs] s
section HL
variable {bs L : Nat} {xs : Nat → Int32} {n d pc : Nat} {K : hq_C}
theorem hq_Jw {ls : hq_L} {st : List hq_V} {h : hq_H} (hn : n + 1 ≤ 5000) (k : hq_T (hq_GL bs L xs (n + 1)) ML_law d pc ls st h) : hq_T (hq_GL bs L xs n) ML_law d pc ls st h := by
  intro p l e R s m args below meth c D cy b H locs la cells slots Q C g hP hS hL hst hls
  obtain ⟨g1, g2, g3, g4, g5, g6, g7, g8, g9, g10, g11, g12⟩ := g
  exact k D cy b H locs la cells slots Q C ⟨g1, g2, g3, g4, g5, g6, by omega, by omega, hn, g10, g11, g12⟩ hP hS hL hst hls
def hk_no : hq_C := fun _ _ _ => False
theorem hs_no : hq_S (hq_GL bs L xs n) ML_law d pc hk_no := fun _ _ _ h => h.elim
/-- the law's end, with true -/
def hk_yes : hq_C := fun _ st _ => st = [.inl (.int 1)]
theorem hs_yes (hd : decode cL_law pc = .ok (.ireturn, 1)) : hq_S (hq_GL bs L xs n) ML_law d pc hk_yes := by
  intro ls st h hh
  have hh : st = [.inl (.int 1)] := hh
  subst hh
  intro p l e R s m args below meth c D cy b H locs la cells slots Q C g hP hS hL hst hls
  obtain ⟨g1, g2, g3, g4, g5, g6, g7, g8, g9, rfl, rfl, rfl⟩ := g
  refine va_forget (fun q hq => Nat.le_trans g6 (hS.2.2 q hq)) ?_
  refine W.widen (k := 601024) (n := 7293034) (by omega) (by omega) ?_
  exact W.base (lw_ret (Drawn.sameBut.refl s.drawn lw_cs) C.1 C.2.1 g2 g3 hd)
/-- the script's length -/
def hk_slen (bs L : Nat) (K : hq_C) : hq_C := fun ls st h => match st with
  | .inl (.ref a) :: r => a = bs ∧ K ls (.inl (.int (nI L)) :: r) h
  | _ => False
theorem hs_slen (hd : decode cL_law pc = .ok (.arraylength, 1)) (k : hq_S (hq_GL bs L xs n) ML_law d (pc + 1) K) : hq_S (hq_GL bs L xs n) ML_law d pc (hk_slen bs L K) := by
  intro ls st h hh
  unfold hk_slen at hh
  split at hh
  next a r =>
    obtain ⟨rfl, hh⟩ := hh
    intro p l e R s m args below meth c D cy b H locs la cells slots Q C g hP hS hL hst hls
    have g' := g
    obtain ⟨g1, g2, g3, g4, g5, g6, g7, g8, g9, rfl, rfl, rfl⟩ := g
    exact va_slen (A := hq_AA b) C.1 C.2.1 g4 g5 (Nat.not_le.mpr (Nat.lt_of_lt_of_le g5 g6)) hS hd (k _ _ _ hh D cy b H locs la cells slots _ C g' hP hS hL ⟨trivial, hst.2⟩ hls)
  next => exact hh.elim
/-- a place of the script -/
def hk_sld (bs L : Nat) (xs : Nat → Int32) (K : hq_C) : hq_C := fun ls st h => match st with
  | .inl (.int i) :: .inl (.ref a) :: r => a = bs ∧ ∃ j, j < L ∧ j < 2 ^ 31 ∧ i = nI j ∧ K ls (.inl (.int (xs j)) :: r) h
  | _ => False
theorem hs_sld (hd : decode cL_law pc = .ok (.iaload, 1)) (k : hq_S (hq_GL bs L xs n) ML_law d (pc + 1) K) : hq_S (hq_GL bs L xs n) ML_law d pc (hk_sld bs L xs K) := by
  intro ls st h hh
  unfold hk_sld at hh
  split at hh
  next i a r =>
    obtain ⟨rfl, j, hj, hj2, rfl, hh⟩ := hh
    intro p l e R s m args below meth c D cy b H locs la cells slots Q C g hP hS hL hst hls
    have g' := g
    obtain ⟨g1, g2, g3, g4, g5, g6, g7, g8, g9, rfl, rfl, rfl⟩ := g
    have e : (nI j).toNatClampNeg = j := nI_clamp hj2
    refine va_sld (A := hq_AA b) C.1 C.2.1 g4 g5 (Nat.not_le.mpr (Nat.lt_of_lt_of_le g5 g6)) hS (i := nI j) ?_ hd ?_
    · rintro (z | z)
      · exact nI_pos hj2 z
      · omega
    · rw [e]
      exact k _ _ _ hh D cy b H locs la cells slots _ C g' hP hS hL ⟨trivial, hst.2.2⟩ hls
  next => exact hh.elim
/-- a call that catches -/
def hk_hc (n d : Nat) (M' : hq_M) (hh : hq_HH) (K : hq_C) : hq_C := fun ls st h => ∃ (As r : List hq_V), As.length = n ∧ st = As.reverse ++ r ∧ hq_cs r ≤ 8 ∧ ∃ (x : Int32) (h1 : hq_H), hq_MetK d M' hh As h (.inl (some (.inl (.int x)))) h1 ∧ K ls (.inl (.int x) :: r) h1
theorem hq_blindK {b : Nat} {cy : Nat → ClassId} {D : va_G} {args : List hq_V} {h : hq_H} : FrameBlind (hq_PK b cy D args h) := by
  intro a U g mk q
  obtain ⟨e, hP, hK, hZ, hN⟩ := q
  exact ⟨e, hP, va_K.moved (u := U) (U := U.calling g mk a) (Vm.Alike.refl U.vm) hK, hq_ZS_moved (u := U) (U := U.calling g mk a) rfl hZ, fun q hq => va_Nc.moved (u := U) (U := U.calling g mk a) (Vm.Alike.refl U.vm) (hN q hq)⟩
theorem hs_hc {M' : hq_M} {hh : hq_HH} {na idx : Nat} (hn5 : n + 1 ≤ 5000) (hd : decode cL_law pc = .ok (.invokestatic idx, 3)) (hm : hq_mk M' hh na) (hw : Cond.methodLink RL idx M'.1 ∈ hq_ws) (k : hq_S (hq_GL bs L xs (n + 1)) ML_law d (pc + 3) K) : hq_S (hq_GL bs L xs n) ML_law d pc (hk_hc na d M' hh K) := by
  intro ls st h hk
  obtain ⟨As, r, hn, rfl, hrm, x, h1, hmet, hk⟩ := hk
  intro p l e R s m args below meth c D cy b H locs la cells slots Q C g hP hS hL hst hls
  have g' := g
  obtain ⟨g1, g2, g3, g4, g5, g6, g7, g8, g9, rfl, rfl, rfl⟩ := g
  obtain ⟨o1, o2⟩ := hq_okS_app hst
  have oA : hq_okS As := hq_okS_of fun v hv => hq_okS_in o1 (List.mem_reverse.mpr hv)
  obtain ⟨hmd, hcode, hini, hml, hpl, hstat⟩ := hm
  have hG : GoodIn hq_ws (va_wsS ML_law.1.cls idx M'.1 (hq_wk M' hh)) := by
    intro w hw'
    have hin : w ∈ hq_ws := by
      simp only [va_wsS, hq_wk, List.cons_append, List.nil_append, List.mem_cons] at hw'
      rcases hw' with rfl | rfl | rfl | rfl | hw'
      · exact hw
      · exact hstat
      · exact hini
      · exact hcode
      · exact hw'
    exact ⟨hin, hq_gw hin⟩
  have run := vx_runSW (p := p) (e := e) (below := below) (meth := meth) (H := H) (locs := locs) (cells := cells) (slots := slots) (R := room_1) (s := s) (m := m) (c := c) (args := #[Value.ref bs]) (As := As.map (hq_cv b)) (rest := r.map (hq_cv b)) (g := F0 m pc la ((As.reverse ++ r).map (hq_cv b))) (cc := cL_law) (nL := 9) (Ts := hq_ws) (own := ML_law.1.cls) ⟨C.1, C.2.1, C.2.2.1, C.2.2.2.1, C.2.2.2.2.1⟩ ((hmet oA).2 l D cy b C.2.2.2.2.2.2.2.1) (vx_cwSW na C.2.2.2.2.1 hG rfl rfl rfl hmd ⟨by have := C.2.2.2.2.2.2.2.2.1; show 2 * d + 8 + 1 ≤ room_1.frames; omega, by have := C.2.2.2.2.2.2.2.2.2.1; show 8 + (M'.2.2.1 + 11) + (80 * d + 120) ≤ room_1.locals; omega⟩)
    ⟨hq_blindK, fun U hU hW => ⟨rfl, by rw [hU]; exact hP, va_K.moved hW.alike C.2.2.2.2.2.1, hq_ZS_to C.2.2.2.2.2.2.1 hS hW hU, fun q hq => va_Nc.moved hW.alike (g1 q hq)⟩⟩ rfl (by rw [List.length_map]; exact hn) hL.1 (by show (As.reverse ++ r).map (hq_cv b) = _; rw [List.map_append, List.map_reverse]) (by have := hq_cs_of (b := b) r; show 2 * 0 + _ ≤ 8; omega) hd ⟨by show cells + 1 ≤ 601024; omega, by show slots + 6 ≤ 7293034; omega⟩
  intro T hT X
  obtain ⟨v, st₀, t, T', LL, h0, X', hLL, e1, e2, ⟨⟨rr, hres, hv⟩, hP1, hF⟩, stp⟩ := run T hT X
  cases hres
  cases hv
  have hS1 : va_S (hq_AA b) s.heap T'.heap (locs ++ LL) := by
    obtain ⟨hz, hkk⟩ := hF
    rw [h0] at hz hkk
    refine ⟨Nat.le_trans hS.1 (by rw [e1]; exact hz), fun q h1 h2 => ?_, fun q hq => ?_⟩
    · rw [e1, hkk q (Nat.lt_of_lt_of_le h1 hS.1) h2]
      exact hS.2.1 q h1 h2
    · rcases List.mem_append.mp hq with h | h
      · exact hS.2.2 q h
      · exact hLL q h
  obtain ⟨t2, a1, b1⟩ := k _ _ _ hk D cy b T'.heap (locs ++ LL) la (cells + 1) (slots + 6) _ ⟨C.1, C.2.1, C.2.2.1, C.2.2.2.1, C.2.2.2.2.1, C.2.2.2.2.2.1, C.2.2.2.2.2.2.1, C.2.2.2.2.2.2.2.1, C.2.2.2.2.2.2.2.2.1, C.2.2.2.2.2.2.2.2.2.1, by show cells + 1 ≤ 601024; omega, by show slots + 6 ≤ 7293034; omega⟩ ⟨g1, g2, g3, g4, g5, g6, by omega, by omega, hn5, rfl, rfl, rfl⟩ (by rw [e1]; exact hP1) hS1 hL ⟨trivial, o2⟩ hls T' rfl X'
  exact ⟨t2, stp t2 a1, b1⟩
end HL
