-- ===== the law's helpers (printed by wip/gen/gen58.py) =====
/-- what a call may answer: a number, or one of two throws -/
def hz_thr (E1 E2 : String) (res : hq_R) : Prop := match res with
  | .inl (some (.inl (.int _))) => True
  | .inr E => E = E1 ∨ E = E2
  | _ => False
def hz_thrZ (E1 E2 : String) (res : hq_R) : Prop := match res with
  | .inl (some (.inl (.int x))) => x = 0 ∨ x = 1
  | .inr E => E = E1 ∨ E = E2
  | _ => False
/-- what the helper makes of it -/
def hz_hc (E1 : String) (res : hq_R) : Int32 := match res with
  | .inl (some (.inl (.int x))) => x
  | .inr E => if E = E1 then -2000001 else -2000002
  | _ => 0
theorem hz_hc1 (E : String) : hz_hc E (.inr E) = -2000001 := if_pos rfl
theorem hz_hc2 {E E' : String} (h : E' ≠ E) : hz_hc E (.inr E') = -2000002 := if_neg h
theorem wLC_18 : Cond.classLink RL 18 hz_ISE ∈ hq_ws := hq_m1 232 rfl rfl
theorem wLC_15 : Cond.classLink RL 15 hz_IAE ∈ hq_ws := hq_m2 93 rfl rfl
theorem wLC_25 : Cond.classLink RL 25 hz_IOB ∈ hq_ws := hq_m2 133 rfl rfl
theorem wKI_RL_17 : Cond.constant RL 17 (-2000001) ∈ hq_ws := hq_m2 74 rfl rfl
theorem wKI_RL_20 : Cond.constant RL 20 (-2000002) ∈ hq_ws := hq_m2 129 rfl rfl
theorem wM_RL_9 : Cond.methodLink RL 9 yX6_make ∈ hq_ws := hq_m2 94 rfl rfl
theorem wM_RL_21 : Cond.methodLink RL 21 yX6_withdraw ∈ hq_ws := hq_m2 134 rfl rfl
theorem wM_RL_27 : Cond.methodLink RL 27 yX6_setStrict ∈ hq_ws := hq_m2 165 rfl rfl
theorem wM_RL_31 : Cond.methodLink RL 31 yX6_waive ∈ hq_ws := hq_m2 173 rfl rfl
theorem wM_RL_35 : Cond.methodLink RL 35 yX6_come ∈ hq_ws := hq_m2 185 rfl rfl
theorem wM_RL_38 : Cond.methodLink RL 38 yX6_go ∈ hq_ws := hq_m2 210 rfl rfl
theorem wM_RL_41 : Cond.methodLink RL 41 yX6_pass ∈ hq_ws := hq_m2 218 rfl rfl
theorem wM_RL_51 : Cond.methodLink RL 51 yX6_goBack ∈ hq_ws := hq_m1 233 rfl rfl
theorem wM_RL_54 : Cond.methodLink RL 54 yX6_undo ∈ hq_ws := hq_m2 78 rfl rfl
theorem wM_RL_57 : Cond.methodLink RL 57 yX6_shouldBeLet ∈ hq_ws := hq_m3 20 rfl rfl
theorem wM_RL_60 : Cond.methodLink RL 60 yX6_shouldBeEmpty ∈ hq_ws := hq_m3 27 rfl rfl
theorem wM_RL_63 : Cond.methodLink RL 63 yX6_fine ∈ hq_ws := hq_m3 34 rfl rfl
theorem wM_RL_66 : Cond.methodLink RL 66 yX6_isStrict ∈ hq_ws := hq_m3 41 rfl rfl
theorem wM_RL_70 : Cond.methodLink RL 70 yX6_waivedFor ∈ hq_ws := hq_m3 48 rfl rfl
theorem wM_RL_73 : Cond.methodLink RL 73 yX6_holdsIn ∈ hq_ws := hq_m3 93 rfl rfl
theorem wM_RL_77 : Cond.methodLink RL 77 yX6_refusedBy ∈ hq_ws := hq_m4 82 rfl rfl
theorem wM_RL_80 : Cond.methodLink RL 80 yX6_finesOf ∈ hq_ws := hq_m3 62 rfl rfl
theorem wM_RL_83 : Cond.methodLink RL 83 yX6_finesIn ∈ hq_ws := hq_m3 149 rfl rfl
theorem wM_RL_86 : Cond.methodLink RL 86 yX6_canStand ∈ hq_ws := hq_m4 1 rfl rfl
theorem wM_RL_89 : Cond.methodLink RL 89 yX6_canStandBySplitting ∈ hq_ws := hq_m4 13 rfl rfl
theorem wM_RL_92 : Cond.methodLink RL 92 yX6_canStandByJoining ∈ hq_ws := hq_m4 20 rfl rfl
theorem wM_RL_95 : Cond.methodLink RL 95 yX6_joined ∈ hq_ws := hq_m4 47 rfl rfl
theorem wM_RL_98 : Cond.methodLink RL 98 yX6_forced ∈ hq_ws := hq_m4 89 rfl rfl
theorem wM_RL_101 : Cond.methodLink RL 101 yX6_follows ∈ hq_ws := hq_m3 102 rfl rfl
theorem wM_RL_104 : Cond.methodLink RL 104 yX6_followsBySplitting ∈ hq_ws := hq_m3 119 rfl rfl
abbrev ML_back : hq_M := (yL_back, cL_back, 2, (some .int))
def hhL_back : hq_HH := [(0, 4, 5, 18)]
theorem mdL_back : hq_mw ML_back (some hhL_back) 1 := ⟨⟨by decide +kernel, by decide +kernel, by decide +kernel⟩, hq_m1 231 rfl rfl, hq_m1 0 rfl rfl, by decide, by decide +kernel, hq_m1 230 rfl rfl⟩
theorem bpL_back (d : Nat) (res : hq_R) (hr : hq_H) : hq_S (hq_GW ML_back (some hhL_back) hq_X0 res hr 0 0) ML_back d 0 (hk_aload 0 (hk_v1r 3 d MX6_goBack (hk_iret res hr))) := (hs_aload_n dL_back_0 rfl (hs_v1r (ci := 6) (N := 9) (T := TX6) dL_back_1 mdX6_goBack wM_RL_51 rfl rfl (hs_iretW (by decide) dL_back_4 rfl)))
theorem pL_back (d : Nat)  (h h1 : hq_H) (x : Int32) (m : hq_Met d MX6_goBack [.inr (3, 0)] h (hz_o x) h1) : hq_MetW 0 (d + 1) ML_back (some hhL_back) hq_X0 [.inr (3, 0)] h (hz_o x) h1 := by
  refine hq_introW (ls := [some (.inr (3, 0)), none]) (by decide +kernel) rfl (fun _ => Nat.le_of_ble_eq_true rfl) (fun _ => trivial) (bpL_back d _ _ _ _ _ ?_)
  exact ⟨_, _, m, rfl, rfl⟩
theorem catL_back_0 : hq_cat ML_back hhL_back 1 hz_ISE 5 := ⟨[], ⟨0, 4, 5, 18⟩, [], hz_ISE, rfl, fun z hz => absurd hz List.not_mem_nil, by decide, by decide, rfl, wLC_18, List.mem_of_getElem? (i := 0) rfl⟩
theorem bcL_back (d : Nat) (res : hq_R) (hr : hq_H) : hq_S (hq_GW ML_back (some hhL_back) hq_XN res hr 1 0) ML_back d 0 (hk_aload 0 (hk_tc 0 3 d MX6_goBack hz_ISE hz_ISE (hk_iret res hr) (hk_astoreX 1 (hk_ldci (-2000001) (hk_iret res hr))) (hk_astoreX 1 (hk_ldci (-2000001) (hk_iret res hr))))) := (hs_aload_n dL_back_0 rfl (hs_tc (ci := 6) (N := 9) (T := TX6) dL_back_1 mdX6_goBack wM_RL_51 rfl rfl catL_back_0 catL_back_0 (hs_iretW (by decide) dL_back_4 rfl) (hs_astoreX_n dL_back_5 rfl (Nat.le_of_ble_eq_true rfl) (hs_ldci dL_back_6 wKI_RL_17 (hs_iretW (by decide) dL_back_8 rfl))) (hs_astoreX_n dL_back_5 rfl (Nat.le_of_ble_eq_true rfl) (hs_ldci dL_back_6 wKI_RL_17 (hs_iretW (by decide) dL_back_8 rfl)))))
theorem kcL_back (d : Nat)  (h h1 : hq_H) (res : hq_R) (m : hq_Met d MX6_goBack [.inr (3, 0)] h res h1) (ok : hz_thr hz_ISE hz_ISE res) : hq_MetW 1 (d + 1) ML_back (some hhL_back) hq_XN [.inr (3, 0)] h (hz_o (hz_hc hz_ISE res)) h1 := by
  match res, m, ok with
  | .inl (some (.inl (.int x))), m, ok =>
    refine hq_introW (ls := [some (.inr (3, 0)), none]) (by decide +kernel) rfl (fun _ => Nat.le_of_ble_eq_true rfl) (fun _ => trivial) (bcL_back d _ _ _ _ _ ?_)
    exact ⟨[], 0, [], rfl, rfl, by decide, _, _, m, ⟨rfl, rfl⟩⟩
  | .inr E, m, ok =>
    rcases ok with rfl | rfl
    · refine hq_introW (ls := [some (.inr (3, 0)), none]) (by decide +kernel) rfl (fun _ => Nat.le_of_ble_eq_true rfl) (fun _ => trivial) (bcL_back d _ _ _ _ _ ?_)
      exact ⟨[], 0, [], rfl, rfl, by decide, _, _, m, Or.inl ⟨rfl, fun q => ⟨hz_ri (hz_hc1 _), rfl⟩⟩⟩
    · refine hq_introW (ls := [some (.inr (3, 0)), none]) (by decide +kernel) rfl (fun _ => Nat.le_of_ble_eq_true rfl) (fun _ => trivial) (bcL_back d _ _ _ _ _ ?_)
      exact ⟨[], 0, [], rfl, rfl, by decide, _, _, m, Or.inl ⟨rfl, fun q => ⟨hz_ri (hz_hc1 _), rfl⟩⟩⟩
abbrev ML_undo : hq_M := (yL_undo, cL_undo, 2, (some .int))
def hhL_undo : hq_HH := [(0, 4, 5, 18)]
theorem mdL_undo : hq_mw ML_undo (some hhL_undo) 1 := ⟨⟨by decide +kernel, by decide +kernel, by decide +kernel⟩, hq_m2 77 rfl rfl, hq_m1 0 rfl rfl, by decide, by decide +kernel, hq_m2 76 rfl rfl⟩
theorem bpL_undo (d : Nat) (res : hq_R) (hr : hq_H) : hq_S (hq_GW ML_undo (some hhL_undo) hq_X0 res hr 0 0) ML_undo d 0 (hk_aload 0 (hk_v1r 3 d MX6_undo (hk_iret res hr))) := (hs_aload_n dL_undo_0 rfl (hs_v1r (ci := 6) (N := 9) (T := TX6) dL_undo_1 mdX6_undo wM_RL_54 rfl rfl (hs_iretW (by decide) dL_undo_4 rfl)))
theorem pL_undo (d : Nat)  (h h1 : hq_H) (x : Int32) (m : hq_Met d MX6_undo [.inr (3, 0)] h (hz_o x) h1) : hq_MetW 0 (d + 1) ML_undo (some hhL_undo) hq_X0 [.inr (3, 0)] h (hz_o x) h1 := by
  refine hq_introW (ls := [some (.inr (3, 0)), none]) (by decide +kernel) rfl (fun _ => Nat.le_of_ble_eq_true rfl) (fun _ => trivial) (bpL_undo d _ _ _ _ _ ?_)
  exact ⟨_, _, m, rfl, rfl⟩
theorem catL_undo_0 : hq_cat ML_undo hhL_undo 1 hz_ISE 5 := ⟨[], ⟨0, 4, 5, 18⟩, [], hz_ISE, rfl, fun z hz => absurd hz List.not_mem_nil, by decide, by decide, rfl, wLC_18, List.mem_of_getElem? (i := 0) rfl⟩
theorem bcL_undo (d : Nat) (res : hq_R) (hr : hq_H) : hq_S (hq_GW ML_undo (some hhL_undo) hq_XN res hr 1 0) ML_undo d 0 (hk_aload 0 (hk_tc 0 3 d MX6_undo hz_ISE hz_ISE (hk_iret res hr) (hk_astoreX 1 (hk_ldci (-2000001) (hk_iret res hr))) (hk_astoreX 1 (hk_ldci (-2000001) (hk_iret res hr))))) := (hs_aload_n dL_undo_0 rfl (hs_tc (ci := 6) (N := 9) (T := TX6) dL_undo_1 mdX6_undo wM_RL_54 rfl rfl catL_undo_0 catL_undo_0 (hs_iretW (by decide) dL_undo_4 rfl) (hs_astoreX_n dL_undo_5 rfl (Nat.le_of_ble_eq_true rfl) (hs_ldci dL_undo_6 wKI_RL_17 (hs_iretW (by decide) dL_undo_8 rfl))) (hs_astoreX_n dL_undo_5 rfl (Nat.le_of_ble_eq_true rfl) (hs_ldci dL_undo_6 wKI_RL_17 (hs_iretW (by decide) dL_undo_8 rfl)))))
theorem kcL_undo (d : Nat)  (h h1 : hq_H) (res : hq_R) (m : hq_Met d MX6_undo [.inr (3, 0)] h res h1) (ok : hz_thr hz_ISE hz_ISE res) : hq_MetW 1 (d + 1) ML_undo (some hhL_undo) hq_XN [.inr (3, 0)] h (hz_o (hz_hc hz_ISE res)) h1 := by
  match res, m, ok with
  | .inl (some (.inl (.int x))), m, ok =>
    refine hq_introW (ls := [some (.inr (3, 0)), none]) (by decide +kernel) rfl (fun _ => Nat.le_of_ble_eq_true rfl) (fun _ => trivial) (bcL_undo d _ _ _ _ _ ?_)
    exact ⟨[], 0, [], rfl, rfl, by decide, _, _, m, ⟨rfl, rfl⟩⟩
  | .inr E, m, ok =>
    rcases ok with rfl | rfl
    · refine hq_introW (ls := [some (.inr (3, 0)), none]) (by decide +kernel) rfl (fun _ => Nat.le_of_ble_eq_true rfl) (fun _ => trivial) (bcL_undo d _ _ _ _ _ ?_)
      exact ⟨[], 0, [], rfl, rfl, by decide, _, _, m, Or.inl ⟨rfl, fun q => ⟨hz_ri (hz_hc1 _), rfl⟩⟩⟩
    · refine hq_introW (ls := [some (.inr (3, 0)), none]) (by decide +kernel) rfl (fun _ => Nat.le_of_ble_eq_true rfl) (fun _ => trivial) (bcL_undo d _ _ _ _ _ ?_)
      exact ⟨[], 0, [], rfl, rfl, by decide, _, _, m, Or.inl ⟨rfl, fun q => ⟨hz_ri (hz_hc1 _), rfl⟩⟩⟩
abbrev ML_make : hq_M := (yL_make, cL_make, 5, (some .int))
def hhL_make : hq_HH := [(0, 7, 8, 15), (0, 7, 13, 18)]
theorem mdL_make : hq_mw ML_make (some hhL_make) 4 := ⟨⟨by decide +kernel, by decide +kernel, by decide +kernel⟩, hq_m2 92 rfl rfl, hq_m1 0 rfl rfl, by decide, by decide +kernel, hq_m2 91 rfl rfl⟩
theorem catL_make_0 : hq_cat ML_make hhL_make 4 hz_IAE 8 := ⟨[], ⟨0, 7, 8, 15⟩, [⟨0, 7, 13, 18⟩], hz_IAE, rfl, fun z hz => absurd hz List.not_mem_nil, by decide, by decide, rfl, wLC_15, List.mem_of_getElem? (i := 7) rfl⟩
theorem catL_make_1 : hq_cat ML_make hhL_make 4 hz_ISE 13 := ⟨[⟨0, 7, 8, 15⟩], ⟨0, 7, 13, 18⟩, [], hz_ISE, rfl, fun z hz => by
  rw [List.mem_singleton.mp hz]
  exact ⟨by decide, hz_IAE, wLC_15, by decide +kernel⟩, by decide, by decide, rfl, wLC_18, List.mem_of_getElem? (i := 0) rfl⟩
theorem bcL_make (d : Nat) (res : hq_R) (hr : hq_H) : hq_S (hq_GW ML_make (some hhL_make) hq_XN res hr 1 0) ML_make d 0 (hk_aload 0 (hk_iload 1 (hk_iload 2 (hk_iload 3 (hk_tc 3 3 d MX6_make hz_IAE hz_ISE (hk_iret res hr) (hk_astoreX 4 (hk_ldci (-2000001) (hk_iret res hr))) (hk_astoreX 4 (hk_ldci (-2000002) (hk_iret res hr)))))))) := (hs_aload_n dL_make_0 rfl (hs_iload_n dL_make_1 rfl (hs_iload_n dL_make_2 rfl (hs_iload_n dL_make_3 rfl (hs_tc (ci := 6) (N := 9) (T := TX6) dL_make_4 mdX6_make wM_RL_9 rfl rfl catL_make_0 catL_make_1 (hs_iretW (by decide) dL_make_7 rfl) (hs_astoreX dL_make_8 (Nat.le_of_ble_eq_true rfl) (hs_ldci dL_make_10 wKI_RL_17 (hs_iretW (by decide) dL_make_12 rfl))) (hs_astoreX dL_make_13 (Nat.le_of_ble_eq_true rfl) (hs_ldci dL_make_15 wKI_RL_20 (hs_iretW (by decide) dL_make_17 rfl))))))))
theorem kcL_make (d : Nat) (a1 : Int32) (a2 : Int32) (a3 : Int32) (h h1 : hq_H) (res : hq_R) (m : hq_Met d MX6_make [.inr (3, 0), hz_i a1, hz_i a2, hz_i a3] h res h1) (ok : hz_thr hz_IAE hz_ISE res) : hq_MetW 1 (d + 1) ML_make (some hhL_make) hq_XN [.inr (3, 0), hz_i a1, hz_i a2, hz_i a3] h (hz_o (hz_hc hz_IAE res)) h1 := by
  match res, m, ok with
  | .inl (some (.inl (.int x))), m, ok =>
    refine hq_introW (ls := [some (.inr (3, 0)), some (hz_i a1), some (hz_i a2), some (hz_i a3), none]) (by decide +kernel) rfl (fun _ => Nat.le_of_ble_eq_true rfl) (fun _ => trivial) (bcL_make d _ _ _ _ _ ?_)
    exact ⟨[hz_i a1, hz_i a2, hz_i a3], 0, [], rfl, rfl, by decide, _, _, m, ⟨rfl, rfl⟩⟩
  | .inr E, m, ok =>
    rcases ok with rfl | rfl
    · refine hq_introW (ls := [some (.inr (3, 0)), some (hz_i a1), some (hz_i a2), some (hz_i a3), none]) (by decide +kernel) rfl (fun _ => Nat.le_of_ble_eq_true rfl) (fun _ => trivial) (bcL_make d _ _ _ _ _ ?_)
      exact ⟨[hz_i a1, hz_i a2, hz_i a3], 0, [], rfl, rfl, by decide, _, _, m, Or.inl ⟨rfl, fun q => ⟨hz_ri (hz_hc1 _), rfl⟩⟩⟩
    · refine hq_introW (ls := [some (.inr (3, 0)), some (hz_i a1), some (hz_i a2), some (hz_i a3), none]) (by decide +kernel) rfl (fun _ => Nat.le_of_ble_eq_true rfl) (fun _ => trivial) (bcL_make d _ _ _ _ _ ?_)
      exact ⟨[hz_i a1, hz_i a2, hz_i a3], 0, [], rfl, rfl, by decide, _, _, m, Or.inr ⟨rfl, fun q => ⟨hz_ri (hz_hc2 (by decide)), rfl⟩⟩⟩
abbrev ML_withdraw : hq_M := (yL_withdraw, cL_withdraw, 3, (some .int))
def hhL_withdraw : hq_HH := [(0, 5, 6, 25)]
theorem mdL_withdraw : hq_mw ML_withdraw (some hhL_withdraw) 2 := ⟨⟨by decide +kernel, by decide +kernel, by decide +kernel⟩, hq_m2 132 rfl rfl, hq_m1 0 rfl rfl, by decide, by decide +kernel, hq_m2 131 rfl rfl⟩
theorem catL_withdraw_0 : hq_cat ML_withdraw hhL_withdraw 2 hz_IOB 6 := ⟨[], ⟨0, 5, 6, 25⟩, [], hz_IOB, rfl, fun z hz => absurd hz List.not_mem_nil, by decide, by decide, rfl, wLC_25, List.mem_of_getElem? (i := 8) rfl⟩
theorem bcL_withdraw (d : Nat) (res : hq_R) (hr : hq_H) : hq_S (hq_GW ML_withdraw (some hhL_withdraw) hq_XN res hr 1 0) ML_withdraw d 0 (hk_aload 0 (hk_iload 1 (hk_tc 1 3 d MX6_withdraw hz_IOB hz_IOB (hk_iret res hr) (hk_astoreX 2 (hk_ldci (-2000001) (hk_iret res hr))) (hk_astoreX 2 (hk_ldci (-2000001) (hk_iret res hr)))))) := (hs_aload_n dL_withdraw_0 rfl (hs_iload_n dL_withdraw_1 rfl (hs_tc (ci := 6) (N := 9) (T := TX6) dL_withdraw_2 mdX6_withdraw wM_RL_21 rfl rfl catL_withdraw_0 catL_withdraw_0 (hs_iretW (by decide) dL_withdraw_5 rfl) (hs_astoreX_n dL_withdraw_6 rfl (Nat.le_of_ble_eq_true rfl) (hs_ldci dL_withdraw_7 wKI_RL_17 (hs_iretW (by decide) dL_withdraw_9 rfl))) (hs_astoreX_n dL_withdraw_6 rfl (Nat.le_of_ble_eq_true rfl) (hs_ldci dL_withdraw_7 wKI_RL_17 (hs_iretW (by decide) dL_withdraw_9 rfl))))))
theorem kcL_withdraw (d : Nat) (a1 : Int32) (h h1 : hq_H) (res : hq_R) (m : hq_Met d MX6_withdraw [.inr (3, 0), hz_i a1] h res h1) (ok : hz_thr hz_IOB hz_IOB res) : hq_MetW 1 (d + 1) ML_withdraw (some hhL_withdraw) hq_XN [.inr (3, 0), hz_i a1] h (hz_o (hz_hc hz_IOB res)) h1 := by
  match res, m, ok with
  | .inl (some (.inl (.int x))), m, ok =>
    refine hq_introW (ls := [some (.inr (3, 0)), some (hz_i a1), none]) (by decide +kernel) rfl (fun _ => Nat.le_of_ble_eq_true rfl) (fun _ => trivial) (bcL_withdraw d _ _ _ _ _ ?_)
    exact ⟨[hz_i a1], 0, [], rfl, rfl, by decide, _, _, m, ⟨rfl, rfl⟩⟩
  | .inr E, m, ok =>
    rcases ok with rfl | rfl
    · refine hq_introW (ls := [some (.inr (3, 0)), some (hz_i a1), none]) (by decide +kernel) rfl (fun _ => Nat.le_of_ble_eq_true rfl) (fun _ => trivial) (bcL_withdraw d _ _ _ _ _ ?_)
      exact ⟨[hz_i a1], 0, [], rfl, rfl, by decide, _, _, m, Or.inl ⟨rfl, fun q => ⟨hz_ri (hz_hc1 _), rfl⟩⟩⟩
    · refine hq_introW (ls := [some (.inr (3, 0)), some (hz_i a1), none]) (by decide +kernel) rfl (fun _ => Nat.le_of_ble_eq_true rfl) (fun _ => trivial) (bcL_withdraw d _ _ _ _ _ ?_)
      exact ⟨[hz_i a1], 0, [], rfl, rfl, by decide, _, _, m, Or.inl ⟨rfl, fun q => ⟨hz_ri (hz_hc1 _), rfl⟩⟩⟩
abbrev ML_strict : hq_M := (yL_strict, cL_strict, 4, (some .int))
def hhL_strict : hq_HH := [(0, 14, 15, 25)]
theorem mdL_strict : hq_mw ML_strict (some hhL_strict) 3 := ⟨⟨by decide +kernel, by decide +kernel, by decide +kernel⟩, hq_m2 164 rfl rfl, hq_m1 0 rfl rfl, by decide, by decide +kernel, hq_m2 163 rfl rfl⟩
theorem catL_strict_0 : hq_cat ML_strict hhL_strict 3 hz_IOB 15 := ⟨[], ⟨0, 14, 15, 25⟩, [], hz_IOB, rfl, fun z hz => absurd hz List.not_mem_nil, by decide, by decide, rfl, wLC_25, List.mem_of_getElem? (i := 8) rfl⟩
theorem bcL_strict (d : Nat) (res : hq_R) (hr : hq_H) : hq_S (hq_GW ML_strict (some hhL_strict) hq_XN res hr 1 0) ML_strict d 0 (hk_aload 0 (hk_iload 1 (hk_iload 2 (hk_tc 2 3 d MX6_setStrict hz_IOB hz_IOB (hk_if_eq (hk_iconst 0 (hk_iret res hr)) (hk_iconst 1 (hk_goto (hk_iret res hr)))) (hk_astoreX 3 (hk_ldci (-2000001) (hk_iret res hr))) (hk_astoreX 3 (hk_ldci (-2000001) (hk_iret res hr))))))) := (hs_aload_n dL_strict_0 rfl (hs_iload_n dL_strict_1 rfl (hs_iload_n dL_strict_2 rfl (hs_tc (ci := 6) (N := 9) (T := TX6) dL_strict_3 mdX6_setStrict wM_RL_27 rfl rfl catL_strict_0 catL_strict_0 (hs_if_eq dL_strict_6 (by decide) (hs_iconst dL_strict_13 (by decide) (hs_iretW (by decide) dL_strict_14 rfl)) (hs_iconst dL_strict_9 (by decide) (hs_goto dL_strict_10 (by decide) (hs_iretW (by decide) dL_strict_14 rfl)))) (hs_astoreX_n dL_strict_15 rfl (Nat.le_of_ble_eq_true rfl) (hs_ldci dL_strict_16 wKI_RL_17 (hs_iretW (by decide) dL_strict_18 rfl))) (hs_astoreX_n dL_strict_15 rfl (Nat.le_of_ble_eq_true rfl) (hs_ldci dL_strict_16 wKI_RL_17 (hs_iretW (by decide) dL_strict_18 rfl)))))))
theorem kcL_strict (d : Nat) (a1 : Int32) (a2 : Int32) (h h1 : hq_H) (res : hq_R) (m : hq_Met d MX6_setStrict [.inr (3, 0), hz_i a1, hz_i a2] h res h1) (ok : hz_thrZ hz_IOB hz_IOB res) : hq_MetW 1 (d + 1) ML_strict (some hhL_strict) hq_XN [.inr (3, 0), hz_i a1, hz_i a2] h (hz_o (hz_hc hz_IOB res)) h1 := by
  match res, m, ok with
  | .inl (some (.inl (.int x))), m, ok =>
    rcases ok with rfl | rfl
    · refine hq_introW (ls := [some (.inr (3, 0)), some (hz_i a1), some (hz_i a2), none]) (by decide +kernel) rfl (fun _ => Nat.le_of_ble_eq_true rfl) (fun _ => trivial) (bcL_strict d _ _ _ _ _ ?_)
      exact ⟨[hz_i a1, hz_i a2], 0, [], rfl, rfl, by decide, _, _, m, hq_bt rfl ⟨rfl, rfl⟩⟩
    · refine hq_introW (ls := [some (.inr (3, 0)), some (hz_i a1), some (hz_i a2), none]) (by decide +kernel) rfl (fun _ => Nat.le_of_ble_eq_true rfl) (fun _ => trivial) (bcL_strict d _ _ _ _ _ ?_)
      exact ⟨[hz_i a1, hz_i a2], 0, [], rfl, rfl, by decide, _, _, m, hq_bf (by decide) ⟨rfl, rfl⟩⟩
  | .inr E, m, ok =>
    rcases ok with rfl | rfl
    · refine hq_introW (ls := [some (.inr (3, 0)), some (hz_i a1), some (hz_i a2), none]) (by decide +kernel) rfl (fun _ => Nat.le_of_ble_eq_true rfl) (fun _ => trivial) (bcL_strict d _ _ _ _ _ ?_)
      exact ⟨[hz_i a1, hz_i a2], 0, [], rfl, rfl, by decide, _, _, m, Or.inl ⟨rfl, fun q => ⟨hz_ri (hz_hc1 _), rfl⟩⟩⟩
    · refine hq_introW (ls := [some (.inr (3, 0)), some (hz_i a1), some (hz_i a2), none]) (by decide +kernel) rfl (fun _ => Nat.le_of_ble_eq_true rfl) (fun _ => trivial) (bcL_strict d _ _ _ _ _ ?_)
      exact ⟨[hz_i a1, hz_i a2], 0, [], rfl, rfl, by decide, _, _, m, Or.inl ⟨rfl, fun q => ⟨hz_ri (hz_hc1 _), rfl⟩⟩⟩
abbrev ML_waive : hq_M := (yL_waive, cL_waive, 4, (some .int))
def hhL_waive : hq_HH := [(0, 6, 7, 25), (0, 6, 11, 15)]
theorem mdL_waive : hq_mw ML_waive (some hhL_waive) 3 := ⟨⟨by decide +kernel, by decide +kernel, by decide +kernel⟩, hq_m2 172 rfl rfl, hq_m1 0 rfl rfl, by decide, by decide +kernel, hq_m2 171 rfl rfl⟩
theorem catL_waive_0 : hq_cat ML_waive hhL_waive 3 hz_IOB 7 := ⟨[], ⟨0, 6, 7, 25⟩, [⟨0, 6, 11, 15⟩], hz_IOB, rfl, fun z hz => absurd hz List.not_mem_nil, by decide, by decide, rfl, wLC_25, List.mem_of_getElem? (i := 8) rfl⟩
theorem catL_waive_1 : hq_cat ML_waive hhL_waive 3 hz_IAE 11 := ⟨[⟨0, 6, 7, 25⟩], ⟨0, 6, 11, 15⟩, [], hz_IAE, rfl, fun z hz => by
  rw [List.mem_singleton.mp hz]
  exact ⟨by decide, hz_IOB, wLC_25, by decide +kernel⟩, by decide, by decide, rfl, wLC_15, List.mem_of_getElem? (i := 7) rfl⟩
theorem bcL_waive (d : Nat) (res : hq_R) (hr : hq_H) : hq_S (hq_GW ML_waive (some hhL_waive) hq_XN res hr 1 0) ML_waive d 0 (hk_aload 0 (hk_iload 1 (hk_iload 2 (hk_tc 2 3 d MX6_waive hz_IOB hz_IAE (hk_iret res hr) (hk_astoreX 3 (hk_ldci (-2000001) (hk_iret res hr))) (hk_astoreX 3 (hk_ldci (-2000002) (hk_iret res hr))))))) := (hs_aload_n dL_waive_0 rfl (hs_iload_n dL_waive_1 rfl (hs_iload_n dL_waive_2 rfl (hs_tc (ci := 6) (N := 9) (T := TX6) dL_waive_3 mdX6_waive wM_RL_31 rfl rfl catL_waive_0 catL_waive_1 (hs_iretW (by decide) dL_waive_6 rfl) (hs_astoreX_n dL_waive_7 rfl (Nat.le_of_ble_eq_true rfl) (hs_ldci dL_waive_8 wKI_RL_17 (hs_iretW (by decide) dL_waive_10 rfl))) (hs_astoreX_n dL_waive_11 rfl (Nat.le_of_ble_eq_true rfl) (hs_ldci dL_waive_12 wKI_RL_20 (hs_iretW (by decide) dL_waive_14 rfl)))))))
theorem kcL_waive (d : Nat) (a1 : Int32) (a2 : Int32) (h h1 : hq_H) (res : hq_R) (m : hq_Met d MX6_waive [.inr (3, 0), hz_i a1, hz_i a2] h res h1) (ok : hz_thr hz_IOB hz_IAE res) : hq_MetW 1 (d + 1) ML_waive (some hhL_waive) hq_XN [.inr (3, 0), hz_i a1, hz_i a2] h (hz_o (hz_hc hz_IOB res)) h1 := by
  match res, m, ok with
  | .inl (some (.inl (.int x))), m, ok =>
    refine hq_introW (ls := [some (.inr (3, 0)), some (hz_i a1), some (hz_i a2), none]) (by decide +kernel) rfl (fun _ => Nat.le_of_ble_eq_true rfl) (fun _ => trivial) (bcL_waive d _ _ _ _ _ ?_)
    exact ⟨[hz_i a1, hz_i a2], 0, [], rfl, rfl, by decide, _, _, m, ⟨rfl, rfl⟩⟩
  | .inr E, m, ok =>
    rcases ok with rfl | rfl
    · refine hq_introW (ls := [some (.inr (3, 0)), some (hz_i a1), some (hz_i a2), none]) (by decide +kernel) rfl (fun _ => Nat.le_of_ble_eq_true rfl) (fun _ => trivial) (bcL_waive d _ _ _ _ _ ?_)
      exact ⟨[hz_i a1, hz_i a2], 0, [], rfl, rfl, by decide, _, _, m, Or.inl ⟨rfl, fun q => ⟨hz_ri (hz_hc1 _), rfl⟩⟩⟩
    · refine hq_introW (ls := [some (.inr (3, 0)), some (hz_i a1), some (hz_i a2), none]) (by decide +kernel) rfl (fun _ => Nat.le_of_ble_eq_true rfl) (fun _ => trivial) (bcL_waive d _ _ _ _ _ ?_)
      exact ⟨[hz_i a1, hz_i a2], 0, [], rfl, rfl, by decide, _, _, m, Or.inr ⟨rfl, fun q => ⟨hz_ri (hz_hc2 (by decide)), rfl⟩⟩⟩
abbrev ML_come : hq_M := (yL_come, cL_come, 3, (some .int))
def hhL_come : hq_HH := [(0, 5, 6, 25), (0, 5, 10, 18)]
theorem mdL_come : hq_mw ML_come (some hhL_come) 2 := ⟨⟨by decide +kernel, by decide +kernel, by decide +kernel⟩, hq_m2 184 rfl rfl, hq_m1 0 rfl rfl, by decide, by decide +kernel, hq_m2 183 rfl rfl⟩
theorem catL_come_0 : hq_cat ML_come hhL_come 2 hz_IOB 6 := ⟨[], ⟨0, 5, 6, 25⟩, [⟨0, 5, 10, 18⟩], hz_IOB, rfl, fun z hz => absurd hz List.not_mem_nil, by decide, by decide, rfl, wLC_25, List.mem_of_getElem? (i := 8) rfl⟩
theorem catL_come_1 : hq_cat ML_come hhL_come 2 hz_ISE 10 := ⟨[⟨0, 5, 6, 25⟩], ⟨0, 5, 10, 18⟩, [], hz_ISE, rfl, fun z hz => by
  rw [List.mem_singleton.mp hz]
  exact ⟨by decide, hz_IOB, wLC_25, by decide +kernel⟩, by decide, by decide, rfl, wLC_18, List.mem_of_getElem? (i := 0) rfl⟩
theorem bcL_come (d : Nat) (res : hq_R) (hr : hq_H) : hq_S (hq_GW ML_come (some hhL_come) hq_XN res hr 1 0) ML_come d 0 (hk_aload 0 (hk_iload 1 (hk_tc 1 3 d MX6_come hz_IOB hz_ISE (hk_iret res hr) (hk_astoreX 2 (hk_ldci (-2000001) (hk_iret res hr))) (hk_astoreX 2 (hk_ldci (-2000002) (hk_iret res hr)))))) := (hs_aload_n dL_come_0 rfl (hs_iload_n dL_come_1 rfl (hs_tc (ci := 6) (N := 9) (T := TX6) dL_come_2 mdX6_come wM_RL_35 rfl rfl catL_come_0 catL_come_1 (hs_iretW (by decide) dL_come_5 rfl) (hs_astoreX_n dL_come_6 rfl (Nat.le_of_ble_eq_true rfl) (hs_ldci dL_come_7 wKI_RL_17 (hs_iretW (by decide) dL_come_9 rfl))) (hs_astoreX_n dL_come_10 rfl (Nat.le_of_ble_eq_true rfl) (hs_ldci dL_come_11 wKI_RL_20 (hs_iretW (by decide) dL_come_13 rfl))))))
theorem kcL_come (d : Nat) (a1 : Int32) (h h1 : hq_H) (res : hq_R) (m : hq_Met d MX6_come [.inr (3, 0), hz_i a1] h res h1) (ok : hz_thr hz_IOB hz_ISE res) : hq_MetW 1 (d + 1) ML_come (some hhL_come) hq_XN [.inr (3, 0), hz_i a1] h (hz_o (hz_hc hz_IOB res)) h1 := by
  match res, m, ok with
  | .inl (some (.inl (.int x))), m, ok =>
    refine hq_introW (ls := [some (.inr (3, 0)), some (hz_i a1), none]) (by decide +kernel) rfl (fun _ => Nat.le_of_ble_eq_true rfl) (fun _ => trivial) (bcL_come d _ _ _ _ _ ?_)
    exact ⟨[hz_i a1], 0, [], rfl, rfl, by decide, _, _, m, ⟨rfl, rfl⟩⟩
  | .inr E, m, ok =>
    rcases ok with rfl | rfl
    · refine hq_introW (ls := [some (.inr (3, 0)), some (hz_i a1), none]) (by decide +kernel) rfl (fun _ => Nat.le_of_ble_eq_true rfl) (fun _ => trivial) (bcL_come d _ _ _ _ _ ?_)
      exact ⟨[hz_i a1], 0, [], rfl, rfl, by decide, _, _, m, Or.inl ⟨rfl, fun q => ⟨hz_ri (hz_hc1 _), rfl⟩⟩⟩
    · refine hq_introW (ls := [some (.inr (3, 0)), some (hz_i a1), none]) (by decide +kernel) rfl (fun _ => Nat.le_of_ble_eq_true rfl) (fun _ => trivial) (bcL_come d _ _ _ _ _ ?_)
      exact ⟨[hz_i a1], 0, [], rfl, rfl, by decide, _, _, m, Or.inr ⟨rfl, fun q => ⟨hz_ri (hz_hc2 (by decide)), rfl⟩⟩⟩
abbrev ML_go : hq_M := (yL_go, cL_go, 3, (some .int))
def hhL_go : hq_HH := [(0, 5, 6, 25), (0, 5, 10, 18)]
theorem mdL_go : hq_mw ML_go (some hhL_go) 2 := ⟨⟨by decide +kernel, by decide +kernel, by decide +kernel⟩, hq_m2 209 rfl rfl, hq_m1 0 rfl rfl, by decide, by decide +kernel, hq_m2 208 rfl rfl⟩
theorem catL_go_0 : hq_cat ML_go hhL_go 2 hz_IOB 6 := ⟨[], ⟨0, 5, 6, 25⟩, [⟨0, 5, 10, 18⟩], hz_IOB, rfl, fun z hz => absurd hz List.not_mem_nil, by decide, by decide, rfl, wLC_25, List.mem_of_getElem? (i := 8) rfl⟩
theorem catL_go_1 : hq_cat ML_go hhL_go 2 hz_ISE 10 := ⟨[⟨0, 5, 6, 25⟩], ⟨0, 5, 10, 18⟩, [], hz_ISE, rfl, fun z hz => by
  rw [List.mem_singleton.mp hz]
  exact ⟨by decide, hz_IOB, wLC_25, by decide +kernel⟩, by decide, by decide, rfl, wLC_18, List.mem_of_getElem? (i := 0) rfl⟩
theorem bcL_go (d : Nat) (res : hq_R) (hr : hq_H) : hq_S (hq_GW ML_go (some hhL_go) hq_XN res hr 1 0) ML_go d 0 (hk_aload 0 (hk_iload 1 (hk_tc 1 3 d MX6_go hz_IOB hz_ISE (hk_iret res hr) (hk_astoreX 2 (hk_ldci (-2000001) (hk_iret res hr))) (hk_astoreX 2 (hk_ldci (-2000002) (hk_iret res hr)))))) := (hs_aload_n dL_go_0 rfl (hs_iload_n dL_go_1 rfl (hs_tc (ci := 6) (N := 9) (T := TX6) dL_go_2 mdX6_go wM_RL_38 rfl rfl catL_go_0 catL_go_1 (hs_iretW (by decide) dL_go_5 rfl) (hs_astoreX_n dL_go_6 rfl (Nat.le_of_ble_eq_true rfl) (hs_ldci dL_go_7 wKI_RL_17 (hs_iretW (by decide) dL_go_9 rfl))) (hs_astoreX_n dL_go_10 rfl (Nat.le_of_ble_eq_true rfl) (hs_ldci dL_go_11 wKI_RL_20 (hs_iretW (by decide) dL_go_13 rfl))))))
theorem kcL_go (d : Nat) (a1 : Int32) (h h1 : hq_H) (res : hq_R) (m : hq_Met d MX6_go [.inr (3, 0), hz_i a1] h res h1) (ok : hz_thr hz_IOB hz_ISE res) : hq_MetW 1 (d + 1) ML_go (some hhL_go) hq_XN [.inr (3, 0), hz_i a1] h (hz_o (hz_hc hz_IOB res)) h1 := by
  match res, m, ok with
  | .inl (some (.inl (.int x))), m, ok =>
    refine hq_introW (ls := [some (.inr (3, 0)), some (hz_i a1), none]) (by decide +kernel) rfl (fun _ => Nat.le_of_ble_eq_true rfl) (fun _ => trivial) (bcL_go d _ _ _ _ _ ?_)
    exact ⟨[hz_i a1], 0, [], rfl, rfl, by decide, _, _, m, ⟨rfl, rfl⟩⟩
  | .inr E, m, ok =>
    rcases ok with rfl | rfl
    · refine hq_introW (ls := [some (.inr (3, 0)), some (hz_i a1), none]) (by decide +kernel) rfl (fun _ => Nat.le_of_ble_eq_true rfl) (fun _ => trivial) (bcL_go d _ _ _ _ _ ?_)
      exact ⟨[hz_i a1], 0, [], rfl, rfl, by decide, _, _, m, Or.inl ⟨rfl, fun q => ⟨hz_ri (hz_hc1 _), rfl⟩⟩⟩
    · refine hq_introW (ls := [some (.inr (3, 0)), some (hz_i a1), none]) (by decide +kernel) rfl (fun _ => Nat.le_of_ble_eq_true rfl) (fun _ => trivial) (bcL_go d _ _ _ _ _ ?_)
      exact ⟨[hz_i a1], 0, [], rfl, rfl, by decide, _, _, m, Or.inr ⟨rfl, fun q => ⟨hz_ri (hz_hc2 (by decide)), rfl⟩⟩⟩
abbrev ML_pass : hq_M := (yL_pass, cL_pass, 3, (some .int))
def hhL_pass : hq_HH := [(0, 5, 6, 15)]
theorem mdL_pass : hq_mw ML_pass (some hhL_pass) 2 := ⟨⟨by decide +kernel, by decide +kernel, by decide +kernel⟩, hq_m2 217 rfl rfl, hq_m1 0 rfl rfl, by decide, by decide +kernel, hq_m2 216 rfl rfl⟩
theorem catL_pass_0 : hq_cat ML_pass hhL_pass 2 hz_IAE 6 := ⟨[], ⟨0, 5, 6, 15⟩, [], hz_IAE, rfl, fun z hz => absurd hz List.not_mem_nil, by decide, by decide, rfl, wLC_15, List.mem_of_getElem? (i := 7) rfl⟩
theorem bcL_pass (d : Nat) (res : hq_R) (hr : hq_H) : hq_S (hq_GW ML_pass (some hhL_pass) hq_XN res hr 1 0) ML_pass d 0 (hk_aload 0 (hk_iload 1 (hk_tc 1 3 d MX6_pass hz_IAE hz_IAE (hk_iret res hr) (hk_astoreX 2 (hk_ldci (-2000001) (hk_iret res hr))) (hk_astoreX 2 (hk_ldci (-2000001) (hk_iret res hr)))))) := (hs_aload_n dL_pass_0 rfl (hs_iload_n dL_pass_1 rfl (hs_tc (ci := 6) (N := 9) (T := TX6) dL_pass_2 mdX6_pass wM_RL_41 rfl rfl catL_pass_0 catL_pass_0 (hs_iretW (by decide) dL_pass_5 rfl) (hs_astoreX_n dL_pass_6 rfl (Nat.le_of_ble_eq_true rfl) (hs_ldci dL_pass_7 wKI_RL_17 (hs_iretW (by decide) dL_pass_9 rfl))) (hs_astoreX_n dL_pass_6 rfl (Nat.le_of_ble_eq_true rfl) (hs_ldci dL_pass_7 wKI_RL_17 (hs_iretW (by decide) dL_pass_9 rfl))))))
theorem kcL_pass (d : Nat) (a1 : Int32) (h h1 : hq_H) (res : hq_R) (m : hq_Met d MX6_pass [.inr (3, 0), hz_i a1] h res h1) (ok : hz_thr hz_IAE hz_IAE res) : hq_MetW 1 (d + 1) ML_pass (some hhL_pass) hq_XN [.inr (3, 0), hz_i a1] h (hz_o (hz_hc hz_IAE res)) h1 := by
  match res, m, ok with
  | .inl (some (.inl (.int x))), m, ok =>
    refine hq_introW (ls := [some (.inr (3, 0)), some (hz_i a1), none]) (by decide +kernel) rfl (fun _ => Nat.le_of_ble_eq_true rfl) (fun _ => trivial) (bcL_pass d _ _ _ _ _ ?_)
    exact ⟨[hz_i a1], 0, [], rfl, rfl, by decide, _, _, m, ⟨rfl, rfl⟩⟩
  | .inr E, m, ok =>
    rcases ok with rfl | rfl
    · refine hq_introW (ls := [some (.inr (3, 0)), some (hz_i a1), none]) (by decide +kernel) rfl (fun _ => Nat.le_of_ble_eq_true rfl) (fun _ => trivial) (bcL_pass d _ _ _ _ _ ?_)
      exact ⟨[hz_i a1], 0, [], rfl, rfl, by decide, _, _, m, Or.inl ⟨rfl, fun q => ⟨hz_ri (hz_hc1 _), rfl⟩⟩⟩
    · refine hq_introW (ls := [some (.inr (3, 0)), some (hz_i a1), none]) (by decide +kernel) rfl (fun _ => Nat.le_of_ble_eq_true rfl) (fun _ => trivial) (bcL_pass d _ _ _ _ _ ?_)
      exact ⟨[hz_i a1], 0, [], rfl, rfl, by decide, _, _, m, Or.inl ⟨rfl, fun q => ⟨hz_ri (hz_hc1 _), rfl⟩⟩⟩
abbrev ML_let : hq_M := (yL_let, cL_let, 3, (some .int))
def hhL_let : hq_HH := [(0, 5, 6, 25)]
theorem mdL_let : hq_mw ML_let (some hhL_let) 2 := ⟨⟨by decide +kernel, by decide +kernel, by decide +kernel⟩, hq_m3 19 rfl rfl, hq_m1 0 rfl rfl, by decide, by decide +kernel, hq_m3 18 rfl rfl⟩
theorem bpL_let (d : Nat) (res : hq_R) (hr : hq_H) : hq_S (hq_GW ML_let (some hhL_let) hq_X0 res hr 0 0) ML_let d 0 (hk_aload 0 (hk_iload 1 (hk_v2r 3 d MX6_shouldBeLet (hk_iret res hr)))) := (hs_aload_n dL_let_0 rfl (hs_iload_n dL_let_1 rfl (hs_v2r (ci := 6) (N := 9) (T := TX6) dL_let_2 mdX6_shouldBeLet wM_RL_57 rfl rfl (hs_iretW (by decide) dL_let_5 rfl))))
theorem pL_let (d : Nat) (a1 : Int32) (h h1 : hq_H) (x : Int32) (m : hq_Met d MX6_shouldBeLet [.inr (3, 0), hz_i a1] h (hz_o x) h1) : hq_MetW 0 (d + 1) ML_let (some hhL_let) hq_X0 [.inr (3, 0), hz_i a1] h (hz_o x) h1 := by
  refine hq_introW (ls := [some (.inr (3, 0)), some (hz_i a1), none]) (by decide +kernel) rfl (fun _ => Nat.le_of_ble_eq_true rfl) (fun _ => trivial) (bpL_let d _ _ _ _ _ ?_)
  exact ⟨_, _, m, rfl, rfl⟩
abbrev ML_empty : hq_M := (yL_empty, cL_empty, 3, (some .int))
def hhL_empty : hq_HH := [(0, 5, 6, 25)]
theorem mdL_empty : hq_mw ML_empty (some hhL_empty) 2 := ⟨⟨by decide +kernel, by decide +kernel, by decide +kernel⟩, hq_m3 26 rfl rfl, hq_m1 0 rfl rfl, by decide, by decide +kernel, hq_m3 25 rfl rfl⟩
theorem bpL_empty (d : Nat) (res : hq_R) (hr : hq_H) : hq_S (hq_GW ML_empty (some hhL_empty) hq_X0 res hr 0 0) ML_empty d 0 (hk_aload 0 (hk_iload 1 (hk_v2r 3 d MX6_shouldBeEmpty (hk_iret res hr)))) := (hs_aload_n dL_empty_0 rfl (hs_iload_n dL_empty_1 rfl (hs_v2r (ci := 6) (N := 9) (T := TX6) dL_empty_2 mdX6_shouldBeEmpty wM_RL_60 rfl rfl (hs_iretW (by decide) dL_empty_5 rfl))))
theorem pL_empty (d : Nat) (a1 : Int32) (h h1 : hq_H) (x : Int32) (m : hq_Met d MX6_shouldBeEmpty [.inr (3, 0), hz_i a1] h (hz_o x) h1) : hq_MetW 0 (d + 1) ML_empty (some hhL_empty) hq_X0 [.inr (3, 0), hz_i a1] h (hz_o x) h1 := by
  refine hq_introW (ls := [some (.inr (3, 0)), some (hz_i a1), none]) (by decide +kernel) rfl (fun _ => Nat.le_of_ble_eq_true rfl) (fun _ => trivial) (bpL_empty d _ _ _ _ _ ?_)
  exact ⟨_, _, m, rfl, rfl⟩
abbrev ML_fine : hq_M := (yL_fine, cL_fine, 3, (some .int))
def hhL_fine : hq_HH := [(0, 5, 6, 25)]
theorem mdL_fine : hq_mw ML_fine (some hhL_fine) 2 := ⟨⟨by decide +kernel, by decide +kernel, by decide +kernel⟩, hq_m3 33 rfl rfl, hq_m1 0 rfl rfl, by decide, by decide +kernel, hq_m3 32 rfl rfl⟩
theorem bpL_fine (d : Nat) (res : hq_R) (hr : hq_H) : hq_S (hq_GW ML_fine (some hhL_fine) hq_X0 res hr 0 0) ML_fine d 0 (hk_aload 0 (hk_iload 1 (hk_v2r 3 d MX6_fine (hk_iret res hr)))) := (hs_aload_n dL_fine_0 rfl (hs_iload_n dL_fine_1 rfl (hs_v2r (ci := 6) (N := 9) (T := TX6) dL_fine_2 mdX6_fine wM_RL_63 rfl rfl (hs_iretW (by decide) dL_fine_5 rfl))))
theorem pL_fine (d : Nat) (a1 : Int32) (h h1 : hq_H) (x : Int32) (m : hq_Met d MX6_fine [.inr (3, 0), hz_i a1] h (hz_o x) h1) : hq_MetW 0 (d + 1) ML_fine (some hhL_fine) hq_X0 [.inr (3, 0), hz_i a1] h (hz_o x) h1 := by
  refine hq_introW (ls := [some (.inr (3, 0)), some (hz_i a1), none]) (by decide +kernel) rfl (fun _ => Nat.le_of_ble_eq_true rfl) (fun _ => trivial) (bpL_fine d _ _ _ _ _ ?_)
  exact ⟨_, _, m, rfl, rfl⟩
abbrev ML_isStrict : hq_M := (yL_isStrict, cL_isStrict, 3, (some .int))
def hhL_isStrict : hq_HH := [(0, 13, 14, 25)]
theorem mdL_isStrict : hq_mw ML_isStrict (some hhL_isStrict) 2 := ⟨⟨by decide +kernel, by decide +kernel, by decide +kernel⟩, hq_m3 40 rfl rfl, hq_m1 0 rfl rfl, by decide, by decide +kernel, hq_m3 39 rfl rfl⟩
theorem bpL_isStrict (d : Nat) (res : hq_R) (hr : hq_H) : hq_S (hq_GW ML_isStrict (some hhL_isStrict) hq_X0 res hr 0 0) ML_isStrict d 0 (hk_aload 0 (hk_iload 1 (hk_v2r 3 d MX6_isStrict (hk_if_eq (hk_iconst 0 (hk_iret res hr)) (hk_iconst 1 (hk_goto (hk_iret res hr))))))) := (hs_aload_n dL_isStrict_0 rfl (hs_iload_n dL_isStrict_1 rfl (hs_v2r (ci := 6) (N := 9) (T := TX6) dL_isStrict_2 mdX6_isStrict wM_RL_66 rfl rfl (hs_if_eq dL_isStrict_5 (by decide) (hs_iconst dL_isStrict_12 (by decide) (hs_iretW (by decide) dL_isStrict_13 rfl)) (hs_iconst dL_isStrict_8 (by decide) (hs_goto dL_isStrict_9 (by decide) (hs_iretW (by decide) dL_isStrict_13 rfl)))))))
theorem pL_isStrict (d : Nat) (a1 : Int32) (h h1 : hq_H) (x : Int32) (hx : x = 0 ∨ x = 1) (m : hq_Met d MX6_isStrict [.inr (3, 0), hz_i a1] h (hz_o x) h1) : hq_MetW 0 (d + 1) ML_isStrict (some hhL_isStrict) hq_X0 [.inr (3, 0), hz_i a1] h (hz_o x) h1 := by
  rcases hx with rfl | rfl
  · refine hq_introW (ls := [some (.inr (3, 0)), some (hz_i a1), none]) (by decide +kernel) rfl (fun _ => Nat.le_of_ble_eq_true rfl) (fun _ => trivial) (bpL_isStrict d _ _ _ _ _ ?_)
    exact ⟨_, _, m, hq_bt rfl ⟨rfl, rfl⟩⟩
  · refine hq_introW (ls := [some (.inr (3, 0)), some (hz_i a1), none]) (by decide +kernel) rfl (fun _ => Nat.le_of_ble_eq_true rfl) (fun _ => trivial) (bpL_isStrict d _ _ _ _ _ ?_)
    exact ⟨_, _, m, hq_bf (by decide) ⟨rfl, rfl⟩⟩
abbrev ML_waived : hq_M := (yL_waived, cL_waived, 3, (some .int))
def hhL_waived : hq_HH := [(0, 5, 6, 25)]
theorem mdL_waived : hq_mw ML_waived (some hhL_waived) 2 := ⟨⟨by decide +kernel, by decide +kernel, by decide +kernel⟩, hq_m3 47 rfl rfl, hq_m1 0 rfl rfl, by decide, by decide +kernel, hq_m3 46 rfl rfl⟩
theorem bpL_waived (d : Nat) (res : hq_R) (hr : hq_H) : hq_S (hq_GW ML_waived (some hhL_waived) hq_X0 res hr 0 0) ML_waived d 0 (hk_aload 0 (hk_iload 1 (hk_v2r 3 d MX6_waivedFor (hk_iret res hr)))) := (hs_aload_n dL_waived_0 rfl (hs_iload_n dL_waived_1 rfl (hs_v2r (ci := 6) (N := 9) (T := TX6) dL_waived_2 mdX6_waivedFor wM_RL_70 rfl rfl (hs_iretW (by decide) dL_waived_5 rfl))))
theorem pL_waived (d : Nat) (a1 : Int32) (h h1 : hq_H) (x : Int32) (m : hq_Met d MX6_waivedFor [.inr (3, 0), hz_i a1] h (hz_o x) h1) : hq_MetW 0 (d + 1) ML_waived (some hhL_waived) hq_X0 [.inr (3, 0), hz_i a1] h (hz_o x) h1 := by
  refine hq_introW (ls := [some (.inr (3, 0)), some (hz_i a1), none]) (by decide +kernel) rfl (fun _ => Nat.le_of_ble_eq_true rfl) (fun _ => trivial) (bpL_waived d _ _ _ _ _ ?_)
  exact ⟨_, _, m, rfl, rfl⟩
abbrev ML_sum : hq_M := (yL_sum, cL_sum, 3, (some .int))
def hhL_sum : hq_HH := [(0, 5, 6, 25)]
theorem mdL_sum : hq_mw ML_sum (some hhL_sum) 2 := ⟨⟨by decide +kernel, by decide +kernel, by decide +kernel⟩, hq_m3 61 rfl rfl, hq_m1 0 rfl rfl, by decide, by decide +kernel, hq_m3 60 rfl rfl⟩
theorem bpL_sum (d : Nat) (res : hq_R) (hr : hq_H) : hq_S (hq_GW ML_sum (some hhL_sum) hq_X0 res hr 0 0) ML_sum d 0 (hk_aload 0 (hk_iload 1 (hk_v2r 3 d MX6_finesOf (hk_iret res hr)))) := (hs_aload_n dL_sum_0 rfl (hs_iload_n dL_sum_1 rfl (hs_v2r (ci := 6) (N := 9) (T := TX6) dL_sum_2 mdX6_finesOf wM_RL_80 rfl rfl (hs_iretW (by decide) dL_sum_5 rfl))))
theorem pL_sum (d : Nat) (a1 : Int32) (h h1 : hq_H) (x : Int32) (m : hq_Met d MX6_finesOf [.inr (3, 0), hz_i a1] h (hz_o x) h1) : hq_MetW 0 (d + 1) ML_sum (some hhL_sum) hq_X0 [.inr (3, 0), hz_i a1] h (hz_o x) h1 := by
  refine hq_introW (ls := [some (.inr (3, 0)), some (hz_i a1), none]) (by decide +kernel) rfl (fun _ => Nat.le_of_ble_eq_true rfl) (fun _ => trivial) (bpL_sum d _ _ _ _ _ ?_)
  exact ⟨_, _, m, rfl, rfl⟩
abbrev ML_holds : hq_M := (yL_holds, cL_holds, 4, (some .int))
def hhL_holds : hq_HH := [(0, 14, 15, 25), (0, 14, 19, 15)]
theorem mdL_holds : hq_mw ML_holds (some hhL_holds) 3 := ⟨⟨by decide +kernel, by decide +kernel, by decide +kernel⟩, hq_m3 92 rfl rfl, hq_m1 0 rfl rfl, by decide, by decide +kernel, hq_m3 91 rfl rfl⟩
theorem bpL_holds (d : Nat) (res : hq_R) (hr : hq_H) : hq_S (hq_GW ML_holds (some hhL_holds) hq_X0 res hr 0 0) ML_holds d 0 (hk_aload 0 (hk_iload 1 (hk_iload 2 (hk_v3r 3 d MX6_holdsIn (hk_if_eq (hk_iconst 0 (hk_iret res hr)) (hk_iconst 1 (hk_goto (hk_iret res hr)))))))) := (hs_aload_n dL_holds_0 rfl (hs_iload_n dL_holds_1 rfl (hs_iload_n dL_holds_2 rfl (hs_v3r (ci := 6) (N := 9) (T := TX6) dL_holds_3 mdX6_holdsIn wM_RL_73 rfl rfl (hs_if_eq dL_holds_6 (by decide) (hs_iconst dL_holds_13 (by decide) (hs_iretW (by decide) dL_holds_14 rfl)) (hs_iconst dL_holds_9 (by decide) (hs_goto dL_holds_10 (by decide) (hs_iretW (by decide) dL_holds_14 rfl))))))))
theorem pL_holds (d : Nat) (a1 : Int32) (a2 : Int32) (h h1 : hq_H) (x : Int32) (hx : x = 0 ∨ x = 1) (m : hq_Met d MX6_holdsIn [.inr (3, 0), hz_i a1, hz_i a2] h (hz_o x) h1) : hq_MetW 0 (d + 1) ML_holds (some hhL_holds) hq_X0 [.inr (3, 0), hz_i a1, hz_i a2] h (hz_o x) h1 := by
  rcases hx with rfl | rfl
  · refine hq_introW (ls := [some (.inr (3, 0)), some (hz_i a1), some (hz_i a2), none]) (by decide +kernel) rfl (fun _ => Nat.le_of_ble_eq_true rfl) (fun _ => trivial) (bpL_holds d _ _ _ _ _ ?_)
    exact ⟨_, _, m, hq_bt rfl ⟨rfl, rfl⟩⟩
  · refine hq_introW (ls := [some (.inr (3, 0)), some (hz_i a1), some (hz_i a2), none]) (by decide +kernel) rfl (fun _ => Nat.le_of_ble_eq_true rfl) (fun _ => trivial) (bpL_holds d _ _ _ _ _ ?_)
    exact ⟨_, _, m, hq_bf (by decide) ⟨rfl, rfl⟩⟩
abbrev ML_follows : hq_M := (yL_follows, cL_follows, 3, (some .int))
def hhL_follows : hq_HH := [(0, 13, 14, 25)]
theorem mdL_follows : hq_mw ML_follows (some hhL_follows) 2 := ⟨⟨by decide +kernel, by decide +kernel, by decide +kernel⟩, hq_m3 101 rfl rfl, hq_m1 0 rfl rfl, by decide, by decide +kernel, hq_m3 100 rfl rfl⟩
theorem bpL_follows (d : Nat) (res : hq_R) (hr : hq_H) : hq_S (hq_GW ML_follows (some hhL_follows) hq_X0 res hr 0 0) ML_follows d 0 (hk_aload 0 (hk_iload 1 (hk_v2r 3 d MX6_follows (hk_if_eq (hk_iconst 0 (hk_iret res hr)) (hk_iconst 1 (hk_goto (hk_iret res hr))))))) := (hs_aload_n dL_follows_0 rfl (hs_iload_n dL_follows_1 rfl (hs_v2r (ci := 6) (N := 9) (T := TX6) dL_follows_2 mdX6_follows wM_RL_101 rfl rfl (hs_if_eq dL_follows_5 (by decide) (hs_iconst dL_follows_12 (by decide) (hs_iretW (by decide) dL_follows_13 rfl)) (hs_iconst dL_follows_8 (by decide) (hs_goto dL_follows_9 (by decide) (hs_iretW (by decide) dL_follows_13 rfl)))))))
theorem pL_follows (d : Nat) (a1 : Int32) (h h1 : hq_H) (x : Int32) (hx : x = 0 ∨ x = 1) (m : hq_Met d MX6_follows [.inr (3, 0), hz_i a1] h (hz_o x) h1) : hq_MetW 0 (d + 1) ML_follows (some hhL_follows) hq_X0 [.inr (3, 0), hz_i a1] h (hz_o x) h1 := by
  rcases hx with rfl | rfl
  · refine hq_introW (ls := [some (.inr (3, 0)), some (hz_i a1), none]) (by decide +kernel) rfl (fun _ => Nat.le_of_ble_eq_true rfl) (fun _ => trivial) (bpL_follows d _ _ _ _ _ ?_)
    exact ⟨_, _, m, hq_bt rfl ⟨rfl, rfl⟩⟩
  · refine hq_introW (ls := [some (.inr (3, 0)), some (hz_i a1), none]) (by decide +kernel) rfl (fun _ => Nat.le_of_ble_eq_true rfl) (fun _ => trivial) (bpL_follows d _ _ _ _ _ ?_)
    exact ⟨_, _, m, hq_bf (by decide) ⟨rfl, rfl⟩⟩
abbrev ML_comes : hq_M := (yL_comes, cL_comes, 3, (some .int))
def hhL_comes : hq_HH := [(0, 13, 14, 25)]
theorem mdL_comes : hq_mw ML_comes (some hhL_comes) 2 := ⟨⟨by decide +kernel, by decide +kernel, by decide +kernel⟩, hq_m3 118 rfl rfl, hq_m1 0 rfl rfl, by decide, by decide +kernel, hq_m3 117 rfl rfl⟩
theorem bpL_comes (d : Nat) (res : hq_R) (hr : hq_H) : hq_S (hq_GW ML_comes (some hhL_comes) hq_X0 res hr 0 0) ML_comes d 0 (hk_aload 0 (hk_iload 1 (hk_v2r 3 d MX6_followsBySplitting (hk_if_eq (hk_iconst 0 (hk_iret res hr)) (hk_iconst 1 (hk_goto (hk_iret res hr))))))) := (hs_aload_n dL_comes_0 rfl (hs_iload_n dL_comes_1 rfl (hs_v2r (ci := 6) (N := 9) (T := TX6) dL_comes_2 mdX6_followsBySplitting wM_RL_104 rfl rfl (hs_if_eq dL_comes_5 (by decide) (hs_iconst dL_comes_12 (by decide) (hs_iretW (by decide) dL_comes_13 rfl)) (hs_iconst dL_comes_8 (by decide) (hs_goto dL_comes_9 (by decide) (hs_iretW (by decide) dL_comes_13 rfl)))))))
theorem pL_comes (d : Nat) (a1 : Int32) (h h1 : hq_H) (x : Int32) (hx : x = 0 ∨ x = 1) (m : hq_Met d MX6_followsBySplitting [.inr (3, 0), hz_i a1] h (hz_o x) h1) : hq_MetW 0 (d + 1) ML_comes (some hhL_comes) hq_X0 [.inr (3, 0), hz_i a1] h (hz_o x) h1 := by
  rcases hx with rfl | rfl
  · refine hq_introW (ls := [some (.inr (3, 0)), some (hz_i a1), none]) (by decide +kernel) rfl (fun _ => Nat.le_of_ble_eq_true rfl) (fun _ => trivial) (bpL_comes d _ _ _ _ _ ?_)
    exact ⟨_, _, m, hq_bt rfl ⟨rfl, rfl⟩⟩
  · refine hq_introW (ls := [some (.inr (3, 0)), some (hz_i a1), none]) (by decide +kernel) rfl (fun _ => Nat.le_of_ble_eq_true rfl) (fun _ => trivial) (bpL_comes d _ _ _ _ _ ?_)
    exact ⟨_, _, m, hq_bf (by decide) ⟨rfl, rfl⟩⟩
abbrev ML_ahead : hq_M := (yL_ahead, cL_ahead, 3, (some .int))
def hhL_ahead : hq_HH := [(0, 5, 6, 15)]
theorem mdL_ahead : hq_mw ML_ahead (some hhL_ahead) 2 := ⟨⟨by decide +kernel, by decide +kernel, by decide +kernel⟩, hq_m3 148 rfl rfl, hq_m1 0 rfl rfl, by decide, by decide +kernel, hq_m3 147 rfl rfl⟩
theorem bpL_ahead (d : Nat) (res : hq_R) (hr : hq_H) : hq_S (hq_GW ML_ahead (some hhL_ahead) hq_X0 res hr 0 0) ML_ahead d 0 (hk_aload 0 (hk_iload 1 (hk_v2r 3 d MX6_finesIn (hk_iret res hr)))) := (hs_aload_n dL_ahead_0 rfl (hs_iload_n dL_ahead_1 rfl (hs_v2r (ci := 6) (N := 9) (T := TX6) dL_ahead_2 mdX6_finesIn wM_RL_83 rfl rfl (hs_iretW (by decide) dL_ahead_5 rfl))))
theorem pL_ahead (d : Nat) (a1 : Int32) (h h1 : hq_H) (x : Int32) (m : hq_Met d MX6_finesIn [.inr (3, 0), hz_i a1] h (hz_o x) h1) : hq_MetW 0 (d + 1) ML_ahead (some hhL_ahead) hq_X0 [.inr (3, 0), hz_i a1] h (hz_o x) h1 := by
  refine hq_introW (ls := [some (.inr (3, 0)), some (hz_i a1), none]) (by decide +kernel) rfl (fun _ => Nat.le_of_ble_eq_true rfl) (fun _ => trivial) (bpL_ahead d _ _ _ _ _ ?_)
  exact ⟨_, _, m, rfl, rfl⟩
abbrev ML_stand : hq_M := (yL_stand, cL_stand, 3, (some .int))
def hhL_stand : hq_HH := [(0, 13, 14, 15)]
theorem mdL_stand : hq_mw ML_stand (some hhL_stand) 2 := ⟨⟨by decide +kernel, by decide +kernel, by decide +kernel⟩, hq_m4 0 rfl rfl, hq_m1 0 rfl rfl, by decide, by decide +kernel, hq_m3 239 rfl rfl⟩
theorem bpL_stand (d : Nat) (res : hq_R) (hr : hq_H) : hq_S (hq_GW ML_stand (some hhL_stand) hq_X0 res hr 0 0) ML_stand d 0 (hk_aload 0 (hk_iload 1 (hk_v2r 3 d MX6_canStand (hk_if_eq (hk_iconst 0 (hk_iret res hr)) (hk_iconst 1 (hk_goto (hk_iret res hr))))))) := (hs_aload_n dL_stand_0 rfl (hs_iload_n dL_stand_1 rfl (hs_v2r (ci := 6) (N := 9) (T := TX6) dL_stand_2 mdX6_canStand wM_RL_86 rfl rfl (hs_if_eq dL_stand_5 (by decide) (hs_iconst dL_stand_12 (by decide) (hs_iretW (by decide) dL_stand_13 rfl)) (hs_iconst dL_stand_8 (by decide) (hs_goto dL_stand_9 (by decide) (hs_iretW (by decide) dL_stand_13 rfl)))))))
theorem pL_stand (d : Nat) (a1 : Int32) (h h1 : hq_H) (x : Int32) (hx : x = 0 ∨ x = 1) (m : hq_Met d MX6_canStand [.inr (3, 0), hz_i a1] h (hz_o x) h1) : hq_MetW 0 (d + 1) ML_stand (some hhL_stand) hq_X0 [.inr (3, 0), hz_i a1] h (hz_o x) h1 := by
  rcases hx with rfl | rfl
  · refine hq_introW (ls := [some (.inr (3, 0)), some (hz_i a1), none]) (by decide +kernel) rfl (fun _ => Nat.le_of_ble_eq_true rfl) (fun _ => trivial) (bpL_stand d _ _ _ _ _ ?_)
    exact ⟨_, _, m, hq_bt rfl ⟨rfl, rfl⟩⟩
  · refine hq_introW (ls := [some (.inr (3, 0)), some (hz_i a1), none]) (by decide +kernel) rfl (fun _ => Nat.le_of_ble_eq_true rfl) (fun _ => trivial) (bpL_stand d _ _ _ _ _ ?_)
    exact ⟨_, _, m, hq_bf (by decide) ⟨rfl, rfl⟩⟩
abbrev ML_split : hq_M := (yL_split, cL_split, 3, (some .int))
def hhL_split : hq_HH := [(0, 13, 14, 15)]
theorem mdL_split : hq_mw ML_split (some hhL_split) 2 := ⟨⟨by decide +kernel, by decide +kernel, by decide +kernel⟩, hq_m4 12 rfl rfl, hq_m1 0 rfl rfl, by decide, by decide +kernel, hq_m4 11 rfl rfl⟩
theorem bpL_split (d : Nat) (res : hq_R) (hr : hq_H) : hq_S (hq_GW ML_split (some hhL_split) hq_X0 res hr 0 0) ML_split d 0 (hk_aload 0 (hk_iload 1 (hk_v2r 3 d MX6_canStandBySplitting (hk_if_eq (hk_iconst 0 (hk_iret res hr)) (hk_iconst 1 (hk_goto (hk_iret res hr))))))) := (hs_aload_n dL_split_0 rfl (hs_iload_n dL_split_1 rfl (hs_v2r (ci := 6) (N := 9) (T := TX6) dL_split_2 mdX6_canStandBySplitting wM_RL_89 rfl rfl (hs_if_eq dL_split_5 (by decide) (hs_iconst dL_split_12 (by decide) (hs_iretW (by decide) dL_split_13 rfl)) (hs_iconst dL_split_8 (by decide) (hs_goto dL_split_9 (by decide) (hs_iretW (by decide) dL_split_13 rfl)))))))
theorem pL_split (d : Nat) (a1 : Int32) (h h1 : hq_H) (x : Int32) (hx : x = 0 ∨ x = 1) (m : hq_Met d MX6_canStandBySplitting [.inr (3, 0), hz_i a1] h (hz_o x) h1) : hq_MetW 0 (d + 1) ML_split (some hhL_split) hq_X0 [.inr (3, 0), hz_i a1] h (hz_o x) h1 := by
  rcases hx with rfl | rfl
  · refine hq_introW (ls := [some (.inr (3, 0)), some (hz_i a1), none]) (by decide +kernel) rfl (fun _ => Nat.le_of_ble_eq_true rfl) (fun _ => trivial) (bpL_split d _ _ _ _ _ ?_)
    exact ⟨_, _, m, hq_bt rfl ⟨rfl, rfl⟩⟩
  · refine hq_introW (ls := [some (.inr (3, 0)), some (hz_i a1), none]) (by decide +kernel) rfl (fun _ => Nat.le_of_ble_eq_true rfl) (fun _ => trivial) (bpL_split d _ _ _ _ _ ?_)
    exact ⟨_, _, m, hq_bf (by decide) ⟨rfl, rfl⟩⟩
abbrev ML_join : hq_M := (yL_join, cL_join, 3, (some .int))
def hhL_join : hq_HH := [(0, 13, 14, 15)]
theorem mdL_join : hq_mw ML_join (some hhL_join) 2 := ⟨⟨by decide +kernel, by decide +kernel, by decide +kernel⟩, hq_m4 19 rfl rfl, hq_m1 0 rfl rfl, by decide, by decide +kernel, hq_m4 18 rfl rfl⟩
theorem bpL_join (d : Nat) (res : hq_R) (hr : hq_H) : hq_S (hq_GW ML_join (some hhL_join) hq_X0 res hr 0 0) ML_join d 0 (hk_aload 0 (hk_iload 1 (hk_v2r 3 d MX6_canStandByJoining (hk_if_eq (hk_iconst 0 (hk_iret res hr)) (hk_iconst 1 (hk_goto (hk_iret res hr))))))) := (hs_aload_n dL_join_0 rfl (hs_iload_n dL_join_1 rfl (hs_v2r (ci := 6) (N := 9) (T := TX6) dL_join_2 mdX6_canStandByJoining wM_RL_92 rfl rfl (hs_if_eq dL_join_5 (by decide) (hs_iconst dL_join_12 (by decide) (hs_iretW (by decide) dL_join_13 rfl)) (hs_iconst dL_join_8 (by decide) (hs_goto dL_join_9 (by decide) (hs_iretW (by decide) dL_join_13 rfl)))))))
theorem pL_join (d : Nat) (a1 : Int32) (h h1 : hq_H) (x : Int32) (hx : x = 0 ∨ x = 1) (m : hq_Met d MX6_canStandByJoining [.inr (3, 0), hz_i a1] h (hz_o x) h1) : hq_MetW 0 (d + 1) ML_join (some hhL_join) hq_X0 [.inr (3, 0), hz_i a1] h (hz_o x) h1 := by
  rcases hx with rfl | rfl
  · refine hq_introW (ls := [some (.inr (3, 0)), some (hz_i a1), none]) (by decide +kernel) rfl (fun _ => Nat.le_of_ble_eq_true rfl) (fun _ => trivial) (bpL_join d _ _ _ _ _ ?_)
    exact ⟨_, _, m, hq_bt rfl ⟨rfl, rfl⟩⟩
  · refine hq_introW (ls := [some (.inr (3, 0)), some (hz_i a1), none]) (by decide +kernel) rfl (fun _ => Nat.le_of_ble_eq_true rfl) (fun _ => trivial) (bpL_join d _ _ _ _ _ ?_)
    exact ⟨_, _, m, hq_bf (by decide) ⟨rfl, rfl⟩⟩
abbrev ML_joined : hq_M := (yL_joined, cL_joined, 3, (some .int))
def hhL_joined : hq_HH := [(0, 5, 6, 15)]
theorem mdL_joined : hq_mw ML_joined (some hhL_joined) 2 := ⟨⟨by decide +kernel, by decide +kernel, by decide +kernel⟩, hq_m4 46 rfl rfl, hq_m1 0 rfl rfl, by decide, by decide +kernel, hq_m4 45 rfl rfl⟩
theorem bpL_joined (d : Nat) (res : hq_R) (hr : hq_H) : hq_S (hq_GW ML_joined (some hhL_joined) hq_X0 res hr 0 0) ML_joined d 0 (hk_aload 0 (hk_iload 1 (hk_v2r 3 d MX6_joined (hk_iret res hr)))) := (hs_aload_n dL_joined_0 rfl (hs_iload_n dL_joined_1 rfl (hs_v2r (ci := 6) (N := 9) (T := TX6) dL_joined_2 mdX6_joined wM_RL_95 rfl rfl (hs_iretW (by decide) dL_joined_5 rfl))))
theorem pL_joined (d : Nat) (a1 : Int32) (h h1 : hq_H) (x : Int32) (m : hq_Met d MX6_joined [.inr (3, 0), hz_i a1] h (hz_o x) h1) : hq_MetW 0 (d + 1) ML_joined (some hhL_joined) hq_X0 [.inr (3, 0), hz_i a1] h (hz_o x) h1 := by
  refine hq_introW (ls := [some (.inr (3, 0)), some (hz_i a1), none]) (by decide +kernel) rfl (fun _ => Nat.le_of_ble_eq_true rfl) (fun _ => trivial) (bpL_joined d _ _ _ _ _ ?_)
  exact ⟨_, _, m, rfl, rfl⟩
abbrev ML_refused : hq_M := (yL_refused, cL_refused, 3, (some .int))
def hhL_refused : hq_HH := [(0, 5, 6, 25)]
theorem mdL_refused : hq_mw ML_refused (some hhL_refused) 2 := ⟨⟨by decide +kernel, by decide +kernel, by decide +kernel⟩, hq_m4 81 rfl rfl, hq_m1 0 rfl rfl, by decide, by decide +kernel, hq_m4 80 rfl rfl⟩
theorem bpL_refused (d : Nat) (res : hq_R) (hr : hq_H) : hq_S (hq_GW ML_refused (some hhL_refused) hq_X0 res hr 0 0) ML_refused d 0 (hk_aload 0 (hk_iload 1 (hk_v2r 3 d MX6_refusedBy (hk_iret res hr)))) := (hs_aload_n dL_refused_0 rfl (hs_iload_n dL_refused_1 rfl (hs_v2r (ci := 6) (N := 9) (T := TX6) dL_refused_2 mdX6_refusedBy wM_RL_77 rfl rfl (hs_iretW (by decide) dL_refused_5 rfl))))
theorem pL_refused (d : Nat) (a1 : Int32) (h h1 : hq_H) (x : Int32) (m : hq_Met d MX6_refusedBy [.inr (3, 0), hz_i a1] h (hz_o x) h1) : hq_MetW 0 (d + 1) ML_refused (some hhL_refused) hq_X0 [.inr (3, 0), hz_i a1] h (hz_o x) h1 := by
  refine hq_introW (ls := [some (.inr (3, 0)), some (hz_i a1), none]) (by decide +kernel) rfl (fun _ => Nat.le_of_ble_eq_true rfl) (fun _ => trivial) (bpL_refused d _ _ _ _ _ ?_)
  exact ⟨_, _, m, rfl, rfl⟩
abbrev ML_forced : hq_M := (yL_forced, cL_forced, 3, (some .int))
def hhL_forced : hq_HH := [(0, 5, 6, 25)]
theorem mdL_forced : hq_mw ML_forced (some hhL_forced) 2 := ⟨⟨by decide +kernel, by decide +kernel, by decide +kernel⟩, hq_m4 88 rfl rfl, hq_m1 0 rfl rfl, by decide, by decide +kernel, hq_m4 87 rfl rfl⟩
theorem bpL_forced (d : Nat) (res : hq_R) (hr : hq_H) : hq_S (hq_GW ML_forced (some hhL_forced) hq_X0 res hr 0 0) ML_forced d 0 (hk_aload 0 (hk_iload 1 (hk_v2r 3 d MX6_forced (hk_iret res hr)))) := (hs_aload_n dL_forced_0 rfl (hs_iload_n dL_forced_1 rfl (hs_v2r (ci := 6) (N := 9) (T := TX6) dL_forced_2 mdX6_forced wM_RL_98 rfl rfl (hs_iretW (by decide) dL_forced_5 rfl))))
theorem pL_forced (d : Nat) (a1 : Int32) (h h1 : hq_H) (x : Int32) (m : hq_Met d MX6_forced [.inr (3, 0), hz_i a1] h (hz_o x) h1) : hq_MetW 0 (d + 1) ML_forced (some hhL_forced) hq_X0 [.inr (3, 0), hz_i a1] h (hz_o x) h1 := by
  refine hq_introW (ls := [some (.inr (3, 0)), some (hz_i a1), none]) (by decide +kernel) rfl (fun _ => Nat.le_of_ble_eq_true rfl) (fun _ => trivial) (bpL_forced d _ _ _ _ _ ?_)
  exact ⟨_, _, m, rfl, rfl⟩
