-- ===== the method acts =====
def ha_pc (m : Nat) : Nat := if m < 4 then 76 else if m < 5 then 121 else if m < 7 then 130 else if m < 8 then 153 else if m < 11 then 169 else if m < 13 then 178 else 187
abbrev ha_G (res : hq_R) (hr : hq_H) : hq_G := hq_GW ML_acts none hq_XN res hr 1 0
theorem hq_go {G : hq_G} {M : hq_M} {d pc : Nat} {K : hq_C} {ls : hq_L} {st : List hq_V} {h : hq_H} (b : hq_S G M d pc K) (k : K ls st h) : hq_T G M d pc ls st h := b ls st h k
theorem ha_sw {res : hq_R} {hr h : hq_H} {Y : Nat} (hY : Y < 2 ^ 31) (k : hq_T (ha_G res hr) ML_acts 20 (ha_pc (Y % 16)) [some (.inr (3, 0)), some (hz_i (nI Y)), some (hz_i (nI Y / 16))] [] h) : hq_T (ha_G res hr) ML_acts 20 0 [some (.inr (3, 0)), some (hz_i (nI Y)), none] [] h := by
  have e : nI Y - nI Y / 16 * 16 = nI (Y % 16) := pk_rem (a := Y) (d := 16) hY (by decide) (by decide)
  have m16 : Y % 16 < 16 := Nat.mod_lt _ (by decide)
  have at_ : ∀ (j : Nat) (pc : Nat), j < 16 → ha_pc j = pc → nI Y - nI Y / 16 * 16 = nI j → hq_T (ha_G res hr) ML_acts 20 pc [some (.inr (3, 0)), some (hz_i (nI Y)), some (hz_i (nI Y / 16))] [] h := fun j pc hj hp z => by
    rw [e] at z
    have z := (nI_eq (a := Y % 16) (b := j) (by omega) (by omega)).mp z
    rw [z, hp] at k
    exact @k
  have no : ∀ j : Nat, j < 16 → ¬ nI Y - nI Y / 16 * 16 = nI j → Y % 16 ≠ j := fun j hj z q => z (by rw [e, q])
  apply hq_go (bL_acts_0 20 res hr)
  refine ⟨by decide, ?_⟩
  refine ⟨by decide, ?_⟩
  refine hq_bc (at_ 0 76 (by decide) rfl) (fun n0 => ?_)
  refine hq_bc (at_ 1 76 (by decide) rfl) (fun n1 => ?_)
  refine hq_bc (at_ 2 76 (by decide) rfl) (fun n2 => ?_)
  refine hq_bc (at_ 3 76 (by decide) rfl) (fun n3 => ?_)
  refine hq_bc (at_ 4 121 (by decide) rfl) (fun n4 => ?_)
  refine hq_bc (at_ 5 130 (by decide) rfl) (fun n5 => ?_)
  refine hq_bc (at_ 6 130 (by decide) rfl) (fun n6 => ?_)
  refine hq_bc (at_ 7 153 (by decide) rfl) (fun n7 => ?_)
  refine hq_bc (at_ 8 169 (by decide) rfl) (fun n8 => ?_)
  refine hq_bc (at_ 9 169 (by decide) rfl) (fun n9 => ?_)
  refine hq_bc (at_ 10 169 (by decide) rfl) (fun n10 => ?_)
  refine hq_bc (at_ 11 178 (by decide) rfl) (fun n11 => ?_)
  refine hq_bc (at_ 12 178 (by decide) rfl) (fun n12 => ?_)
  have q0 := no 0 (by decide) n0
  have q1 := no 1 (by decide) n1
  have q2 := no 2 (by decide) n2
  have q3 := no 3 (by decide) n3
  have q4 := no 4 (by decide) n4
  have q5 := no 5 (by decide) n5
  have q6 := no 6 (by decide) n6
  have q7 := no 7 (by decide) n7
  have q8 := no 8 (by decide) n8
  have q9 := no 9 (by decide) n9
  have q10 := no 10 (by decide) n10
  have q11 := no 11 (by decide) n11
  have q12 := no 12 (by decide) n12
  have ep : ha_pc (Y % 16) = 187 := by
    unfold ha_pc
    rw [if_neg (by omega), if_neg (by omega), if_neg (by omega), if_neg (by omega), if_neg (by omega), if_neg (by omega)]
  rw [ep] at k
  exact @k
/-- what acts answers, and leaves -/
def hA_out (i : Nat) (w : hz_W) (h : hq_H) (Y : Nat) : Prop := ∃ t h' w', hq_MetW 1 21 ML_acts none hq_XN [.inr (3, 0), hz_i (nI Y)] h (hz_o t) h' ∧ hz_RC h' w' ∧ ((t < 0 ∧ w' = w) ∨ (0 ≤ t ∧ ∃ st, w' = sp_saved w st ∧ hI (i + 1) st))
theorem hA_fin {i : Nat} {w : hz_W} {h : hq_H} {Y : Nat} (hY : Y < 2 ^ 31) {X : hz_X} {E1 : String} {h' : hq_H} (A : hA i w X) (R' : hz_RC h' X.2) (k : hq_T (ha_G (hz_o (hz_hc E1 X.1)) h') ML_acts 20 (ha_pc (Y % 16)) [some (.inr (3, 0)), some (hz_i (nI Y)), some (hz_i (nI Y / 16))] [] h) : hA_out i w h Y := by
  refine ⟨_, h', X.2, hq_introW (ls := [some (.inr (3, 0)), some (hz_i (nI Y)), none]) (by decide +kernel) rfl (fun _ => Nat.le_of_ble_eq_true rfl) (fun _ => trivial) ?_, R', hA_told E1 A⟩
  exact ha_sw hY @k
theorem t_acts {i : Nat} (hi : i ≤ 100) {h : hq_H} {w : hz_W} (R : hz_RC h w) (I : hI i w.1) {Y : Nat} (hY : Y < 2 ^ 31) : hA_out i w h Y := by
  have ok := R.2.1
  by_cases c1 : Y % 16 < 4
  · have ep : ha_pc (Y % 16) = 76 := if_pos c1
    by_cases z : nI Y / 16 / 715 - nI Y / 16 / 715 / 3 * 3 = 0
    · obtain ⟨A, th⟩ := hA_make I ok (nI Y / 16 - nI Y / 16 / 11 * 11) ((nI Y / 16 / 11 - nI Y / 16 / 11 / 65 * 65) &&& 127) ((nI Y / 16 / 2145 - nI Y / 16 / 2145 / 64 * 64) &&& 26)
      obtain ⟨h', m, R', -⟩ := t_make 14 h w R (nI Y / 16 - nI Y / 16 / 11 * 11) ((nI Y / 16 / 11 - nI Y / 16 / 11 / 65 * 65) &&& 127) ((nI Y / 16 / 2145 - nI Y / 16 / 2145 / 64 * 64) &&& 26)
      refine hA_fin (E1 := hz_IAE) hY A R' ?_
      rw [ep]
      apply hq_go (bL_acts_76 20 _ _)
      refine ⟨by decide, by decide, by decide, by decide, by decide, hq_nf z ?_⟩
      refine ⟨by decide, by decide, ?_⟩
      exact ⟨[.inr (3, 0), _, _, _], [], rfl, rfl, by decide, _, _, kcL_make 19 _ _ _ h h' _ m th, rfl, rfl⟩
    · obtain ⟨A, th⟩ := hA_make I ok (nI Y / 16 - nI Y / 16 / 11 * 11) ((nI Y / 16 / 11 - nI Y / 16 / 11 / 65 * 65) &&& 37) ((nI Y / 16 / 2145 - nI Y / 16 / 2145 / 64 * 64) &&& 26)
      obtain ⟨h', m, R', -⟩ := t_make 14 h w R (nI Y / 16 - nI Y / 16 / 11 * 11) ((nI Y / 16 / 11 - nI Y / 16 / 11 / 65 * 65) &&& 37) ((nI Y / 16 / 2145 - nI Y / 16 / 2145 / 64 * 64) &&& 26)
      refine hA_fin (E1 := hz_IAE) hY A R' ?_
      rw [ep]
      apply hq_go (bL_acts_76 20 _ _)
      refine ⟨by decide, by decide, by decide, by decide, by decide, hq_nt z ?_⟩
      refine ⟨by decide, by decide, ?_⟩
      exact ⟨[.inr (3, 0), _, _, _], [], rfl, rfl, by decide, _, _, kcL_make 19 _ _ _ h h' _ m th, rfl, rfl⟩
  by_cases c2 : Y % 16 < 5
  · have ep : ha_pc (Y % 16) = 121 := by
      unfold ha_pc
      rw [if_neg c1, if_pos c2]
    obtain ⟨A, th⟩ := hA_withdraw I ok (nI Y / 16 - nI Y / 16 / 11 * 11)
    obtain ⟨h', m, R', -⟩ := t_withdraw 14 h w R (nI Y / 16 - nI Y / 16 / 11 * 11)
    refine hA_fin (E1 := hz_IOB) hY A R' ?_
    rw [ep]
    apply hq_go (bL_acts_121 20 _ _)
    refine ⟨by decide, ?_⟩
    exact ⟨[.inr (3, 0), _], [], rfl, rfl, by decide, _, _, kcL_withdraw 19 _ h h' _ m th, rfl, rfl⟩
  by_cases c3 : Y % 16 < 7
  · have ep : ha_pc (Y % 16) = 130 := by
      unfold ha_pc
      rw [if_neg c1, if_neg c2, if_pos c3]
    by_cases z : nI Y / 16 / 11 - nI Y / 16 / 11 / 3 * 3 ≤ 0
    · obtain ⟨A, th⟩ := hA_setStrict I ok (nI Y / 16 - nI Y / 16 / 11 * 11) false
      obtain ⟨h', m, R', -⟩ := t_setStrict 14 h w R (nI Y / 16 - nI Y / 16 / 11 * 11) false
      refine hA_fin (E1 := hz_IOB) hY A R' ?_
      rw [ep]
      apply hq_go (bL_acts_130 20 _ _)
      refine ⟨by decide, by decide, by decide, hq_bt z ?_⟩
      exact ⟨[.inr (3, 0), _, _], [], rfl, rfl, by decide, _, _, kcL_strict 19 _ _ h h' _ m th, rfl, rfl⟩
    · obtain ⟨A, th⟩ := hA_setStrict I ok (nI Y / 16 - nI Y / 16 / 11 * 11) true
      obtain ⟨h', m, R', -⟩ := t_setStrict 14 h w R (nI Y / 16 - nI Y / 16 / 11 * 11) true
      refine hA_fin (E1 := hz_IOB) hY A R' ?_
      rw [ep]
      apply hq_go (bL_acts_130 20 _ _)
      refine ⟨by decide, by decide, by decide, hq_bf z ?_⟩
      exact ⟨[.inr (3, 0), _, _], [], rfl, rfl, by decide, _, _, kcL_strict 19 _ _ h h' _ m th, rfl, rfl⟩
  by_cases c4 : Y % 16 < 8
  · have ep : ha_pc (Y % 16) = 153 := by
      unfold ha_pc
      rw [if_neg c1, if_neg c2, if_neg c3, if_pos c4]
    obtain ⟨A, th⟩ := hA_waive hi I ok (nI Y / 16 - nI Y / 16 / 11 * 11) (nI Y / 16 / 11 - nI Y / 16 / 11 / 32 * 32)
    obtain ⟨h', m, R', -⟩ := t_waive 14 h w R (nI Y / 16 - nI Y / 16 / 11 * 11) (nI Y / 16 / 11 - nI Y / 16 / 11 / 32 * 32)
    refine hA_fin (E1 := hz_IOB) hY A R' ?_
    rw [ep]
    apply hq_go (bL_acts_153 20 _ _)
    refine ⟨by decide, by decide, by decide, ?_⟩
    exact ⟨[.inr (3, 0), _, _], [], rfl, rfl, by decide, _, _, kcL_waive 19 _ _ h h' _ m th, rfl, rfl⟩
  by_cases c5 : Y % 16 < 11
  · have ep : ha_pc (Y % 16) = 169 := by
      unfold ha_pc
      rw [if_neg c1, if_neg c2, if_neg c3, if_neg c4, if_pos c5]
    obtain ⟨A, th⟩ := hA_move I ok (nI Y / 16 - nI Y / 16 / 7 * 7) false
    obtain ⟨h', m, R', -⟩ := t_come 14 h w R (nI Y / 16 - nI Y / 16 / 7 * 7)
    refine hA_fin (E1 := hz_IOB) hY A R' ?_
    rw [ep]
    apply hq_go (bL_acts_169 20 _ _)
    refine ⟨by decide, ?_⟩
    exact ⟨[.inr (3, 0), _], [], rfl, rfl, by decide, _, _, kcL_come 19 _ h h' _ m th, rfl, rfl⟩
  by_cases c6 : Y % 16 < 13
  · have ep : ha_pc (Y % 16) = 178 := by
      unfold ha_pc
      rw [if_neg c1, if_neg c2, if_neg c3, if_neg c4, if_neg c5, if_pos c6]
    obtain ⟨A, th⟩ := hA_move I ok (nI Y / 16 - nI Y / 16 / 7 * 7) true
    obtain ⟨h', m, R', -⟩ := t_go 14 h w R (nI Y / 16 - nI Y / 16 / 7 * 7)
    refine hA_fin (E1 := hz_IOB) hY A R' ?_
    rw [ep]
    apply hq_go (bL_acts_178 20 _ _)
    refine ⟨by decide, ?_⟩
    exact ⟨[.inr (3, 0), _], [], rfl, rfl, by decide, _, _, kcL_go 19 _ h h' _ m th, rfl, rfl⟩
  · have ep : ha_pc (Y % 16) = 187 := by
      unfold ha_pc
      rw [if_neg c1, if_neg c2, if_neg c3, if_neg c4, if_neg c5, if_neg c6]
    have e9 : nI Y / 16 - nI Y / 16 / 9 * 9 = nI (Y / 16 % 9) := by
      rw [show nI Y / 16 = nI (Y / 16) from pk_div (a := Y) (d := 16) hY (by decide) (by decide)]
      exact pk_rem (a := Y / 16) (d := 9) (by omega) (by decide) (by decide)
    obtain ⟨A, th⟩ := hA_pass I ok (q := Y / 16 % 9) (by omega)
    obtain ⟨h', m, R', -⟩ := t_pass 14 h w R (nI (Y / 16 % 9))
    have kc := kcL_pass 19 _ h h' _ m th
    refine hA_fin (E1 := hz_IAE) hY A R' ?_
    rw [← e9] at kc
    rw [ep]
    apply hq_go (bL_acts_187 20 _ _)
    refine ⟨by decide, ?_⟩
    exact ⟨[.inr (3, 0), _], [], rfl, rfl, by decide, _, _, kc, hz_ri (by rw [e9]), rfl⟩
