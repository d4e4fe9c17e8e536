-- ===== the law's calls that catch: each of them (printed by wip/gen/gen_hlp.py) =====
def hk_astoreX (i : Nat) (K : hq_C) : hq_C := fun ls st h => match st with
  | .inl (.ref q) :: r => K (hq_st1 ls i (.inl (.ref q))) r h
  | _ => False
section HX
variable {G : hq_G} {M : hq_M} {d pc : Nat} {K : hq_C}
theorem hs_astoreX {i : Nat} (hd : decode M.2.1 pc = .ok (.astore i, 2)) (hn : i < M.2.2.1) (k : hq_S G M d (pc + 2) K) : hq_S G M d pc (hk_astoreX i K) := by
  intro ls st h hh
  unfold hk_astoreX at hh
  split at hh
  next q r =>
    intro p l e R s m args below meth c D cy b H locs la cells slots Q C g hP hS hL hst hls
    exact lv_astore C.1 C.2.1 hd (hq_LH_has hL) hn rfl (fun la' h' => k _ _ _ hh D cy b H locs la' cells slots Q C g hP hS (hq_LH_1 (v := .inl (.ref q)) h') hst.2 (hq_okL_1 hls hst.1))
  next => exact hh.elim
theorem hs_astoreX_n {z : Fin 4} {i : Nat} (hd : decode M.2.1 pc = .ok (.astore_n z, 1)) (hi : (z : Nat) = i) (hn : i < M.2.2.1) (k : hq_S G M d (pc + 1) K) : hq_S G M d pc (hk_astoreX i K) := by
  intro ls st h hh
  unfold hk_astoreX at hh
  split at hh
  next q r =>
    intro p l e R s m args below meth c D cy b H locs la cells slots Q C g hP hS hL hst hls
    exact lv_astore_n C.1 C.2.1 hd hi (hq_LH_has hL) hn rfl (fun la' h' => k _ _ _ hh D cy b H locs la' cells slots Q C g hP hS (hq_LH_1 (v := .inl (.ref q)) h') hst.2 (hq_okL_1 hls hst.1))
  next => exact hh.elim
end HX
def hq_mk (M : hq_M) (hh : hq_HH) (n : Nat) : Prop := (M.1.cls ≠ "java/lang/invoke/MethodHandle" ∧ M.1.cls ≠ "java/lang/invoke/VarHandle" ∧ (parseMethodDescriptor M.1.desc).map (fun d => d.parameters.length) = some n) ∧ Cond.codeWith M.1 M.2.1 M.2.2.1 M.2.2.2 hh ∈ hq_ws ∧ Cond.initialized M.1.cls ∈ hq_ws ∧ M.2.2.1 ≤ 40 ∧ plainName M.1.cls = true ∧ Cond.static M.1 ∈ hq_ws
/-- what a call may answer: a number, or one of two throws -/
def hz_thr (E1 E2 : String) (res : hq_R) : Prop := match res with
  | .inl (some (.inl (.int _))) => True
  | .inr E => E = E1 ∨ E = E2
  | _ => False
def hz_thrZ (E1 E2 : String) (res : hq_R) : Prop := match res with
  | .inl (some (.inl (.int x))) => x = 0 ∨ x = 1
  | .inr E => E = E1 ∨ E = E2
  | _ => False
/-- what the law keeps of it -/
def hz_hout (E1 : String) (res : hq_R) (k : Int32) (h1 hr : hq_H) : Prop := match res with
  | .inl (some (.inl (.int x))) => k = 0 ∧ hr = hq_sl h1 20 0 0 x.toInt64
  | .inr E => k = (if E = E1 then 1 else 2) ∧ hr = h1
  | _ => False
theorem wLC_13 : Cond.classLink RL 13 hz_IAE ∈ hq_ws := hq_m3 124 rfl rfl
theorem wLC_15 : Cond.classLink RL 15 hz_ISE ∈ hq_ws := hq_m3 125 rfl rfl
theorem wLC_21 : Cond.classLink RL 21 hz_IOB ∈ hq_ws := hq_m3 237 rfl rfl
abbrev ML_make : hq_M := (yL_make, cL_make, 6, (some .int))
def hhL_make : hq_HH := [(0, 12, 15, 13), (0, 12, 19, 15)]
theorem mdL_make : hq_mk ML_make hhL_make 5 := ⟨⟨by decide +kernel, by decide +kernel, by decide +kernel⟩, hq_m3 123 rfl rfl, hq_m1 0 rfl rfl, by decide, by decide +kernel, hq_m3 122 rfl rfl⟩
theorem wLM_7 : Cond.methodLink RL 7 yX6_make ∈ hq_ws := hq_m3 126 rfl rfl
theorem catL_make_0 : hq_cat ML_make hhL_make 7 hz_IAE 15 := ⟨[], ⟨0, 12, 15, 13⟩, [⟨0, 12, 19, 15⟩], hz_IAE, rfl, fun z hz => absurd hz List.not_mem_nil, by decide, by decide, rfl, wLC_13, List.mem_of_getElem? (i := 0) rfl⟩
theorem catL_make_1 : hq_cat ML_make hhL_make 7 hz_ISE 19 := ⟨[⟨0, 12, 15, 13⟩], ⟨0, 12, 19, 15⟩, [], hz_ISE, rfl, fun z hz => by
  rw [List.mem_singleton.mp hz]
  exact ⟨by decide, hz_IAE, wLC_13, by decide +kernel⟩, by decide, by decide, rfl, wLC_15, List.mem_of_getElem? (i := 7) rfl⟩
theorem bL_make (d : Nat) (res : hq_R) (hr : hq_H) : hq_S (hq_Gk ML_make hhL_make res hr 0) ML_make d 0 (hk_aload 4 (hk_iconst 0 (hk_aload 0 (hk_iload 1 (hk_iload 2 (hk_iload 3 (hk_tc 3 3 d MX6_make hz_IAE hz_ISE (hk_i2l (hk_last 20 1 (hk_goto (hk_iconst 0 (hk_iret res hr))))) (hk_astoreX 5 (hk_iconst 1 (hk_iret res hr))) (hk_astoreX 5 (hk_iconst 2 (hk_iret res hr)))))))))) := (hs_aload dL_make_0 (hs_iconst dL_make_2 (by decide) (hs_aload_n dL_make_3 rfl (hs_iload_n dL_make_4 rfl (hs_iload_n dL_make_5 rfl (hs_iload_n dL_make_6 rfl (hs_tc (ci := 6) (N := 9) (T := TX6) dL_make_7 mdX6_make wLM_7 rfl rfl catL_make_0 catL_make_1 (hs_i2l dL_make_10 (hs_last dL_make_11 rfl (by decide) (hs_goto dL_make_12 (by decide) (hs_iconst dL_make_23 (by decide) (hs_iretK (by decide) dL_make_24 rfl))))) (hs_astoreX dL_make_15 (Nat.le_of_ble_eq_true rfl) (hs_iconst dL_make_17 (by decide) (hs_iretK (by decide) dL_make_18 rfl))) (hs_astoreX dL_make_19 (Nat.le_of_ble_eq_true rfl) (hs_iconst dL_make_21 (by decide) (hs_iretK (by decide) dL_make_22 rfl))))))))))
theorem hL_make (d : Nat) (a1 : Int32) (a2 : Int32) (a3 : Int32) (h h1 : hq_H) (res : hq_R) (m : hq_Met d MX6_make [.inr (3, 0), hz_i a1, hz_i a2, hz_i a3] h res h1) (ok : hz_thr hz_IAE hz_ISE res) : ∃ (k : Int32) (hr : hq_H), hq_MetK (d + 1) ML_make hhL_make [.inr (3, 0), hz_i a1, hz_i a2, hz_i a3, .inr (20, 0)] h (hz_o k) hr ∧ hz_hout hz_IAE res k h1 hr := by
  match res, m, ok with
  | .inl (some (.inl (.int x))), m, ok =>
    refine ⟨0, hq_sl h1 20 0 0 x.toInt64, hq_introK (ls := [some (.inr (3, 0)), some (hz_i a1), some (hz_i a2), some (hz_i a3), some (.inr (20, 0)), none]) (by decide +kernel) rfl (fun _ => Nat.le_of_ble_eq_true rfl) (fun _ => trivial) (bL_make d _ _ _ _ _ ?_), rfl, rfl⟩
    exact ⟨[hz_i a1, hz_i a2, hz_i a3], 0, [.inl (.int 0), .inr (20, 0)], rfl, rfl, by decide, _, _, m, ⟨0, by decide, rfl, rfl, rfl⟩⟩
  | .inr E, m, ok =>
    rcases ok with rfl | rfl
    · refine ⟨1, h1, hq_introK (ls := [some (.inr (3, 0)), some (hz_i a1), some (hz_i a2), some (hz_i a3), some (.inr (20, 0)), none]) (by decide +kernel) rfl (fun _ => Nat.le_of_ble_eq_true rfl) (fun _ => trivial) (bL_make d _ _ _ _ _ ?_), (if_pos rfl).symm, rfl⟩
      exact ⟨[hz_i a1, hz_i a2, hz_i a3], 0, [.inl (.int 0), .inr (20, 0)], rfl, rfl, by decide, _, _, m, Or.inl ⟨rfl, fun q => ⟨rfl, rfl⟩⟩⟩
    · refine ⟨2, h1, hq_introK (ls := [some (.inr (3, 0)), some (hz_i a1), some (hz_i a2), some (hz_i a3), some (.inr (20, 0)), none]) (by decide +kernel) rfl (fun _ => Nat.le_of_ble_eq_true rfl) (fun _ => trivial) (bL_make d _ _ _ _ _ ?_), (if_neg (by decide)).symm, rfl⟩
      exact ⟨[hz_i a1, hz_i a2, hz_i a3], 0, [.inl (.int 0), .inr (20, 0)], rfl, rfl, by decide, _, _, m, Or.inr ⟨rfl, fun q => ⟨rfl, rfl⟩⟩⟩
abbrev ML_withdraw : hq_M := (yL_withdraw, cL_withdraw, 4, (some .int))
def hhL_withdraw : hq_HH := [(0, 9, 12, 21)]
theorem mdL_withdraw : hq_mk ML_withdraw hhL_withdraw 3 := ⟨⟨by decide +kernel, by decide +kernel, by decide +kernel⟩, hq_m3 236 rfl rfl, hq_m1 0 rfl rfl, by decide, by decide +kernel, hq_m3 235 rfl rfl⟩
theorem wLM_17 : Cond.methodLink RL 17 yX6_withdraw ∈ hq_ws := hq_m3 238 rfl rfl
theorem catL_withdraw_0 : hq_cat ML_withdraw hhL_withdraw 4 hz_IOB 12 := ⟨[], ⟨0, 9, 12, 21⟩, [], hz_IOB, rfl, fun z hz => absurd hz List.not_mem_nil, by decide, by decide, rfl, wLC_21, List.mem_of_getElem? (i := 8) rfl⟩
theorem bL_withdraw (d : Nat) (res : hq_R) (hr : hq_H) : hq_S (hq_Gk ML_withdraw hhL_withdraw res hr 0) ML_withdraw d 0 (hk_aload 2 (hk_iconst 0 (hk_aload 0 (hk_iload 1 (hk_tc 1 3 d MX6_withdraw hz_IOB hz_IOB (hk_i2l (hk_last 20 1 (hk_goto (hk_iconst 0 (hk_iret res hr))))) (hk_astoreX 3 (hk_iconst 1 (hk_iret res hr))) (hk_astoreX 3 (hk_iconst 1 (hk_iret res hr)))))))) := (hs_aload_n dL_withdraw_0 rfl (hs_iconst dL_withdraw_1 (by decide) (hs_aload_n dL_withdraw_2 rfl (hs_iload_n dL_withdraw_3 rfl (hs_tc (ci := 6) (N := 9) (T := TX6) dL_withdraw_4 mdX6_withdraw wLM_17 rfl rfl catL_withdraw_0 catL_withdraw_0 (hs_i2l dL_withdraw_7 (hs_last dL_withdraw_8 rfl (by decide) (hs_goto dL_withdraw_9 (by decide) (hs_iconst dL_withdraw_15 (by decide) (hs_iretK (by decide) dL_withdraw_16 rfl))))) (hs_astoreX_n dL_withdraw_12 rfl (Nat.le_of_ble_eq_true rfl) (hs_iconst dL_withdraw_13 (by decide) (hs_iretK (by decide) dL_withdraw_14 rfl))) (hs_astoreX_n dL_withdraw_12 rfl (Nat.le_of_ble_eq_true rfl) (hs_iconst dL_withdraw_13 (by decide) (hs_iretK (by decide) dL_withdraw_14 rfl))))))))
theorem hL_withdraw (d : Nat) (a1 : Int32) (h h1 : hq_H) (res : hq_R) (m : hq_Met d MX6_withdraw [.inr (3, 0), hz_i a1] h res h1) (ok : hz_thr hz_IOB hz_IOB res) : ∃ (k : Int32) (hr : hq_H), hq_MetK (d + 1) ML_withdraw hhL_withdraw [.inr (3, 0), hz_i a1, .inr (20, 0)] h (hz_o k) hr ∧ hz_hout hz_IOB res k h1 hr := by
  match res, m, ok with
  | .inl (some (.inl (.int x))), m, ok =>
    refine ⟨0, hq_sl h1 20 0 0 x.toInt64, hq_introK (ls := [some (.inr (3, 0)), some (hz_i a1), some (.inr (20, 0)), none]) (by decide +kernel) rfl (fun _ => Nat.le_of_ble_eq_true rfl) (fun _ => trivial) (bL_withdraw d _ _ _ _ _ ?_), rfl, rfl⟩
    exact ⟨[hz_i a1], 0, [.inl (.int 0), .inr (20, 0)], rfl, rfl, by decide, _, _, m, ⟨0, by decide, rfl, rfl, rfl⟩⟩
  | .inr E, m, ok =>
    rcases ok with rfl | rfl
    · refine ⟨1, h1, hq_introK (ls := [some (.inr (3, 0)), some (hz_i a1), some (.inr (20, 0)), none]) (by decide +kernel) rfl (fun _ => Nat.le_of_ble_eq_true rfl) (fun _ => trivial) (bL_withdraw d _ _ _ _ _ ?_), (if_pos rfl).symm, rfl⟩
      exact ⟨[hz_i a1], 0, [.inl (.int 0), .inr (20, 0)], rfl, rfl, by decide, _, _, m, Or.inl ⟨rfl, fun q => ⟨rfl, rfl⟩⟩⟩
    · refine ⟨1, h1, hq_introK (ls := [some (.inr (3, 0)), some (hz_i a1), some (.inr (20, 0)), none]) (by decide +kernel) rfl (fun _ => Nat.le_of_ble_eq_true rfl) (fun _ => trivial) (bL_withdraw d _ _ _ _ _ ?_), (if_pos rfl).symm, rfl⟩
      exact ⟨[hz_i a1], 0, [.inl (.int 0), .inr (20, 0)], rfl, rfl, by decide, _, _, m, Or.inl ⟨rfl, fun q => ⟨rfl, rfl⟩⟩⟩
abbrev ML_setStrict : hq_M := (yL_setStrict, cL_setStrict, 5, (some .int))
def hhL_setStrict : hq_HH := [(0, 17, 20, 21)]
theorem mdL_setStrict : hq_mk ML_setStrict hhL_setStrict 4 := ⟨⟨by decide +kernel, by decide +kernel, by decide +kernel⟩, hq_m4 28 rfl rfl, hq_m1 0 rfl rfl, by decide, by decide +kernel, hq_m4 27 rfl rfl⟩
theorem wLM_23 : Cond.methodLink RL 23 yX6_setStrict ∈ hq_ws := hq_m4 29 rfl rfl
theorem catL_setStrict_0 : hq_cat ML_setStrict hhL_setStrict 5 hz_IOB 20 := ⟨[], ⟨0, 17, 20, 21⟩, [], hz_IOB, rfl, fun z hz => absurd hz List.not_mem_nil, by decide, by decide, rfl, wLC_21, List.mem_of_getElem? (i := 8) rfl⟩
theorem bL_setStrict (d : Nat) (res : hq_R) (hr : hq_H) : hq_S (hq_Gk ML_setStrict hhL_setStrict res hr 0) ML_setStrict d 0 (hk_aload 3 (hk_iconst 0 (hk_aload 0 (hk_iload 1 (hk_iload 2 (hk_tc 2 3 d MX6_setStrict hz_IOB hz_IOB (hk_if_eq (hk_lconst 0 (hk_last 20 1 (hk_goto (hk_iconst 0 (hk_iret res hr))))) (hk_lconst 1 (hk_goto (hk_last 20 1 (hk_goto (hk_iconst 0 (hk_iret res hr))))))) (hk_astoreX 4 (hk_iconst 1 (hk_iret res hr))) (hk_astoreX 4 (hk_iconst 1 (hk_iret res hr))))))))) := (hs_aload_n dL_setStrict_0 rfl (hs_iconst dL_setStrict_1 (by decide) (hs_aload_n dL_setStrict_2 rfl (hs_iload_n dL_setStrict_3 rfl (hs_iload_n dL_setStrict_4 rfl (hs_tc (ci := 6) (N := 9) (T := TX6) dL_setStrict_5 mdX6_setStrict wLM_23 rfl rfl catL_setStrict_0 catL_setStrict_0 (hs_if_eq dL_setStrict_8 (by decide) (hs_lconst dL_setStrict_15 (by decide) (hs_last dL_setStrict_16 rfl (by decide) (hs_goto dL_setStrict_17 (by decide) (hs_iconst dL_setStrict_24 (by decide) (hs_iretK (by decide) dL_setStrict_25 rfl))))) (hs_lconst dL_setStrict_11 (by decide) (hs_goto dL_setStrict_12 (by decide) (hs_last dL_setStrict_16 rfl (by decide) (hs_goto dL_setStrict_17 (by decide) (hs_iconst dL_setStrict_24 (by decide) (hs_iretK (by decide) dL_setStrict_25 rfl))))))) (hs_astoreX dL_setStrict_20 (Nat.le_of_ble_eq_true rfl) (hs_iconst dL_setStrict_22 (by decide) (hs_iretK (by decide) dL_setStrict_23 rfl))) (hs_astoreX dL_setStrict_20 (Nat.le_of_ble_eq_true rfl) (hs_iconst dL_setStrict_22 (by decide) (hs_iretK (by decide) dL_setStrict_23 rfl)))))))))
theorem hL_setStrict (d : Nat) (a1 : Int32) (a2 : Int32) (h h1 : hq_H) (res : hq_R) (m : hq_Met d MX6_setStrict [.inr (3, 0), hz_i a1, hz_i a2] h res h1) (ok : hz_thrZ hz_IOB hz_IOB res) : ∃ (k : Int32) (hr : hq_H), hq_MetK (d + 1) ML_setStrict hhL_setStrict [.inr (3, 0), hz_i a1, hz_i a2, .inr (20, 0)] h (hz_o k) hr ∧ hz_hout hz_IOB res k h1 hr := by
  match res, m, ok with
  | .inl (some (.inl (.int x))), m, ok =>
    rcases ok with rfl | rfl
    · refine ⟨0, hq_sl h1 20 0 0 0, hq_introK (ls := [some (.inr (3, 0)), some (hz_i a1), some (hz_i a2), some (.inr (20, 0)), none]) (by decide +kernel) rfl (fun _ => Nat.le_of_ble_eq_true rfl) (fun _ => trivial) (bL_setStrict d _ _ _ _ _ ?_), rfl, rfl⟩
      exact ⟨[hz_i a1, hz_i a2], 0, [.inl (.int 0), .inr (20, 0)], rfl, rfl, by decide, _, _, m, hq_bt rfl ⟨0, by decide, rfl, rfl, rfl⟩⟩
    · refine ⟨0, hq_sl h1 20 0 0 1, hq_introK (ls := [some (.inr (3, 0)), some (hz_i a1), some (hz_i a2), some (.inr (20, 0)), none]) (by decide +kernel) rfl (fun _ => Nat.le_of_ble_eq_true rfl) (fun _ => trivial) (bL_setStrict d _ _ _ _ _ ?_), rfl, rfl⟩
      exact ⟨[hz_i a1, hz_i a2], 0, [.inl (.int 0), .inr (20, 0)], rfl, rfl, by decide, _, _, m, hq_bf hz_one0 ⟨0, by decide, rfl, rfl, rfl⟩⟩
  | .inr E, m, ok =>
    rcases ok with rfl | rfl
    · refine ⟨1, h1, hq_introK (ls := [some (.inr (3, 0)), some (hz_i a1), some (hz_i a2), some (.inr (20, 0)), none]) (by decide +kernel) rfl (fun _ => Nat.le_of_ble_eq_true rfl) (fun _ => trivial) (bL_setStrict d _ _ _ _ _ ?_), (if_pos rfl).symm, rfl⟩
      exact ⟨[hz_i a1, hz_i a2], 0, [.inl (.int 0), .inr (20, 0)], rfl, rfl, by decide, _, _, m, Or.inl ⟨rfl, fun q => ⟨rfl, rfl⟩⟩⟩
    · refine ⟨1, h1, hq_introK (ls := [some (.inr (3, 0)), some (hz_i a1), some (hz_i a2), some (.inr (20, 0)), none]) (by decide +kernel) rfl (fun _ => Nat.le_of_ble_eq_true rfl) (fun _ => trivial) (bL_setStrict d _ _ _ _ _ ?_), (if_pos rfl).symm, rfl⟩
      exact ⟨[hz_i a1, hz_i a2], 0, [.inl (.int 0), .inr (20, 0)], rfl, rfl, by decide, _, _, m, Or.inl ⟨rfl, fun q => ⟨rfl, rfl⟩⟩⟩
abbrev ML_waive : hq_M := (yL_waive, cL_waive, 5, (some .int))
def hhL_waive : hq_HH := [(0, 10, 13, 21), (0, 10, 17, 13)]
theorem mdL_waive : hq_mk ML_waive hhL_waive 4 := ⟨⟨by decide +kernel, by decide +kernel, by decide +kernel⟩, hq_m4 35 rfl rfl, hq_m1 0 rfl rfl, by decide, by decide +kernel, hq_m4 34 rfl rfl⟩
theorem wLM_27 : Cond.methodLink RL 27 yX6_waive ∈ hq_ws := hq_m4 36 rfl rfl
theorem catL_waive_0 : hq_cat ML_waive hhL_waive 5 hz_IOB 13 := ⟨[], ⟨0, 10, 13, 21⟩, [⟨0, 10, 17, 13⟩], hz_IOB, rfl, fun z hz => absurd hz List.not_mem_nil, by decide, by decide, rfl, wLC_21, List.mem_of_getElem? (i := 8) rfl⟩
theorem catL_waive_1 : hq_cat ML_waive hhL_waive 5 hz_IAE 17 := ⟨[⟨0, 10, 13, 21⟩], ⟨0, 10, 17, 13⟩, [], hz_IAE, rfl, fun z hz => by
  rw [List.mem_singleton.mp hz]
  exact ⟨by decide, hz_IOB, wLC_21, by decide +kernel⟩, by decide, by decide, rfl, wLC_13, List.mem_of_getElem? (i := 0) rfl⟩
theorem bL_waive (d : Nat) (res : hq_R) (hr : hq_H) : hq_S (hq_Gk ML_waive hhL_waive res hr 0) ML_waive d 0 (hk_aload 3 (hk_iconst 0 (hk_aload 0 (hk_iload 1 (hk_iload 2 (hk_tc 2 3 d MX6_waive hz_IOB hz_IAE (hk_i2l (hk_last 20 1 (hk_goto (hk_iconst 0 (hk_iret res hr))))) (hk_astoreX 4 (hk_iconst 1 (hk_iret res hr))) (hk_astoreX 4 (hk_iconst 2 (hk_iret res hr))))))))) := (hs_aload_n dL_waive_0 rfl (hs_iconst dL_waive_1 (by decide) (hs_aload_n dL_waive_2 rfl (hs_iload_n dL_waive_3 rfl (hs_iload_n dL_waive_4 rfl (hs_tc (ci := 6) (N := 9) (T := TX6) dL_waive_5 mdX6_waive wLM_27 rfl rfl catL_waive_0 catL_waive_1 (hs_i2l dL_waive_8 (hs_last dL_waive_9 rfl (by decide) (hs_goto dL_waive_10 (by decide) (hs_iconst dL_waive_21 (by decide) (hs_iretK (by decide) dL_waive_22 rfl))))) (hs_astoreX dL_waive_13 (Nat.le_of_ble_eq_true rfl) (hs_iconst dL_waive_15 (by decide) (hs_iretK (by decide) dL_waive_16 rfl))) (hs_astoreX dL_waive_17 (Nat.le_of_ble_eq_true rfl) (hs_iconst dL_waive_19 (by decide) (hs_iretK (by decide) dL_waive_20 rfl)))))))))
theorem hL_waive (d : Nat) (a1 : Int32) (a2 : Int32) (h h1 : hq_H) (res : hq_R) (m : hq_Met d MX6_waive [.inr (3, 0), hz_i a1, hz_i a2] h res h1) (ok : hz_thr hz_IOB hz_IAE res) : ∃ (k : Int32) (hr : hq_H), hq_MetK (d + 1) ML_waive hhL_waive [.inr (3, 0), hz_i a1, hz_i a2, .inr (20, 0)] h (hz_o k) hr ∧ hz_hout hz_IOB res k h1 hr := by
  match res, m, ok with
  | .inl (some (.inl (.int x))), m, ok =>
    refine ⟨0, hq_sl h1 20 0 0 x.toInt64, hq_introK (ls := [some (.inr (3, 0)), some (hz_i a1), some (hz_i a2), some (.inr (20, 0)), none]) (by decide +kernel) rfl (fun _ => Nat.le_of_ble_eq_true rfl) (fun _ => trivial) (bL_waive d _ _ _ _ _ ?_), rfl, rfl⟩
    exact ⟨[hz_i a1, hz_i a2], 0, [.inl (.int 0), .inr (20, 0)], rfl, rfl, by decide, _, _, m, ⟨0, by decide, rfl, rfl, rfl⟩⟩
  | .inr E, m, ok =>
    rcases ok with rfl | rfl
    · refine ⟨1, h1, hq_introK (ls := [some (.inr (3, 0)), some (hz_i a1), some (hz_i a2), some (.inr (20, 0)), none]) (by decide +kernel) rfl (fun _ => Nat.le_of_ble_eq_true rfl) (fun _ => trivial) (bL_waive d _ _ _ _ _ ?_), (if_pos rfl).symm, rfl⟩
      exact ⟨[hz_i a1, hz_i a2], 0, [.inl (.int 0), .inr (20, 0)], rfl, rfl, by decide, _, _, m, Or.inl ⟨rfl, fun q => ⟨rfl, rfl⟩⟩⟩
    · refine ⟨2, h1, hq_introK (ls := [some (.inr (3, 0)), some (hz_i a1), some (hz_i a2), some (.inr (20, 0)), none]) (by decide +kernel) rfl (fun _ => Nat.le_of_ble_eq_true rfl) (fun _ => trivial) (bL_waive d _ _ _ _ _ ?_), (if_neg (by decide)).symm, rfl⟩
      exact ⟨[hz_i a1, hz_i a2], 0, [.inl (.int 0), .inr (20, 0)], rfl, rfl, by decide, _, _, m, Or.inr ⟨rfl, fun q => ⟨rfl, rfl⟩⟩⟩
abbrev ML_come : hq_M := (yL_come, cL_come, 4, (some .int))
def hhL_come : hq_HH := [(0, 9, 12, 21), (0, 9, 15, 15)]
theorem mdL_come : hq_mk ML_come hhL_come 3 := ⟨⟨by decide +kernel, by decide +kernel, by decide +kernel⟩, hq_m4 47 rfl rfl, hq_m1 0 rfl rfl, by decide, by decide +kernel, hq_m4 46 rfl rfl⟩
theorem wLM_31 : Cond.methodLink RL 31 yX6_come ∈ hq_ws := hq_m4 48 rfl rfl
theorem catL_come_0 : hq_cat ML_come hhL_come 4 hz_IOB 12 := ⟨[], ⟨0, 9, 12, 21⟩, [⟨0, 9, 15, 15⟩], hz_IOB, rfl, fun z hz => absurd hz List.not_mem_nil, by decide, by decide, rfl, wLC_21, List.mem_of_getElem? (i := 8) rfl⟩
theorem catL_come_1 : hq_cat ML_come hhL_come 4 hz_ISE 15 := ⟨[⟨0, 9, 12, 21⟩], ⟨0, 9, 15, 15⟩, [], hz_ISE, rfl, fun z hz => by
  rw [List.mem_singleton.mp hz]
  exact ⟨by decide, hz_IOB, wLC_21, by decide +kernel⟩, by decide, by decide, rfl, wLC_15, List.mem_of_getElem? (i := 7) rfl⟩
theorem bL_come (d : Nat) (res : hq_R) (hr : hq_H) : hq_S (hq_Gk ML_come hhL_come res hr 0) ML_come d 0 (hk_aload 2 (hk_iconst 0 (hk_aload 0 (hk_iload 1 (hk_tc 1 3 d MX6_come hz_IOB hz_ISE (hk_i2l (hk_last 20 1 (hk_goto (hk_iconst 0 (hk_iret res hr))))) (hk_astoreX 3 (hk_iconst 1 (hk_iret res hr))) (hk_astoreX 3 (hk_iconst 2 (hk_iret res hr)))))))) := (hs_aload_n dL_come_0 rfl (hs_iconst dL_come_1 (by decide) (hs_aload_n dL_come_2 rfl (hs_iload_n dL_come_3 rfl (hs_tc (ci := 6) (N := 9) (T := TX6) dL_come_4 mdX6_come wLM_31 rfl rfl catL_come_0 catL_come_1 (hs_i2l dL_come_7 (hs_last dL_come_8 rfl (by decide) (hs_goto dL_come_9 (by decide) (hs_iconst dL_come_18 (by decide) (hs_iretK (by decide) dL_come_19 rfl))))) (hs_astoreX_n dL_come_12 rfl (Nat.le_of_ble_eq_true rfl) (hs_iconst dL_come_13 (by decide) (hs_iretK (by decide) dL_come_14 rfl))) (hs_astoreX_n dL_come_15 rfl (Nat.le_of_ble_eq_true rfl) (hs_iconst dL_come_16 (by decide) (hs_iretK (by decide) dL_come_17 rfl))))))))
theorem hL_come (d : Nat) (a1 : Int32) (h h1 : hq_H) (res : hq_R) (m : hq_Met d MX6_come [.inr (3, 0), hz_i a1] h res h1) (ok : hz_thr hz_IOB hz_ISE res) : ∃ (k : Int32) (hr : hq_H), hq_MetK (d + 1) ML_come hhL_come [.inr (3, 0), hz_i a1, .inr (20, 0)] h (hz_o k) hr ∧ hz_hout hz_IOB res k h1 hr := by
  match res, m, ok with
  | .inl (some (.inl (.int x))), m, ok =>
    refine ⟨0, hq_sl h1 20 0 0 x.toInt64, hq_introK (ls := [some (.inr (3, 0)), some (hz_i a1), some (.inr (20, 0)), none]) (by decide +kernel) rfl (fun _ => Nat.le_of_ble_eq_true rfl) (fun _ => trivial) (bL_come d _ _ _ _ _ ?_), rfl, rfl⟩
    exact ⟨[hz_i a1], 0, [.inl (.int 0), .inr (20, 0)], rfl, rfl, by decide, _, _, m, ⟨0, by decide, rfl, rfl, rfl⟩⟩
  | .inr E, m, ok =>
    rcases ok with rfl | rfl
    · refine ⟨1, h1, hq_introK (ls := [some (.inr (3, 0)), some (hz_i a1), some (.inr (20, 0)), none]) (by decide +kernel) rfl (fun _ => Nat.le_of_ble_eq_true rfl) (fun _ => trivial) (bL_come d _ _ _ _ _ ?_), (if_pos rfl).symm, rfl⟩
      exact ⟨[hz_i a1], 0, [.inl (.int 0), .inr (20, 0)], rfl, rfl, by decide, _, _, m, Or.inl ⟨rfl, fun q => ⟨rfl, rfl⟩⟩⟩
    · refine ⟨2, h1, hq_introK (ls := [some (.inr (3, 0)), some (hz_i a1), some (.inr (20, 0)), none]) (by decide +kernel) rfl (fun _ => Nat.le_of_ble_eq_true rfl) (fun _ => trivial) (bL_come d _ _ _ _ _ ?_), (if_neg (by decide)).symm, rfl⟩
      exact ⟨[hz_i a1], 0, [.inl (.int 0), .inr (20, 0)], rfl, rfl, by decide, _, _, m, Or.inr ⟨rfl, fun q => ⟨rfl, rfl⟩⟩⟩
abbrev ML_go : hq_M := (yL_go, cL_go, 4, (some .int))
def hhL_go : hq_HH := [(0, 9, 12, 21), (0, 9, 15, 15)]
theorem mdL_go : hq_mk ML_go hhL_go 3 := ⟨⟨by decide +kernel, by decide +kernel, by decide +kernel⟩, hq_m4 68 rfl rfl, hq_m1 0 rfl rfl, by decide, by decide +kernel, hq_m4 67 rfl rfl⟩
theorem wLM_34 : Cond.methodLink RL 34 yX6_go ∈ hq_ws := hq_m4 69 rfl rfl
theorem catL_go_0 : hq_cat ML_go hhL_go 4 hz_IOB 12 := ⟨[], ⟨0, 9, 12, 21⟩, [⟨0, 9, 15, 15⟩], hz_IOB, rfl, fun z hz => absurd hz List.not_mem_nil, by decide, by decide, rfl, wLC_21, List.mem_of_getElem? (i := 8) rfl⟩
theorem catL_go_1 : hq_cat ML_go hhL_go 4 hz_ISE 15 := ⟨[⟨0, 9, 12, 21⟩], ⟨0, 9, 15, 15⟩, [], hz_ISE, rfl, fun z hz => by
  rw [List.mem_singleton.mp hz]
  exact ⟨by decide, hz_IOB, wLC_21, by decide +kernel⟩, by decide, by decide, rfl, wLC_15, List.mem_of_getElem? (i := 7) rfl⟩
theorem bL_go (d : Nat) (res : hq_R) (hr : hq_H) : hq_S (hq_Gk ML_go hhL_go res hr 0) ML_go d 0 (hk_aload 2 (hk_iconst 0 (hk_aload 0 (hk_iload 1 (hk_tc 1 3 d MX6_go hz_IOB hz_ISE (hk_i2l (hk_last 20 1 (hk_goto (hk_iconst 0 (hk_iret res hr))))) (hk_astoreX 3 (hk_iconst 1 (hk_iret res hr))) (hk_astoreX 3 (hk_iconst 2 (hk_iret res hr)))))))) := (hs_aload_n dL_go_0 rfl (hs_iconst dL_go_1 (by decide) (hs_aload_n dL_go_2 rfl (hs_iload_n dL_go_3 rfl (hs_tc (ci := 6) (N := 9) (T := TX6) dL_go_4 mdX6_go wLM_34 rfl rfl catL_go_0 catL_go_1 (hs_i2l dL_go_7 (hs_last dL_go_8 rfl (by decide) (hs_goto dL_go_9 (by decide) (hs_iconst dL_go_18 (by decide) (hs_iretK (by decide) dL_go_19 rfl))))) (hs_astoreX_n dL_go_12 rfl (Nat.le_of_ble_eq_true rfl) (hs_iconst dL_go_13 (by decide) (hs_iretK (by decide) dL_go_14 rfl))) (hs_astoreX_n dL_go_15 rfl (Nat.le_of_ble_eq_true rfl) (hs_iconst dL_go_16 (by decide) (hs_iretK (by decide) dL_go_17 rfl))))))))
theorem hL_go (d : Nat) (a1 : Int32) (h h1 : hq_H) (res : hq_R) (m : hq_Met d MX6_go [.inr (3, 0), hz_i a1] h res h1) (ok : hz_thr hz_IOB hz_ISE res) : ∃ (k : Int32) (hr : hq_H), hq_MetK (d + 1) ML_go hhL_go [.inr (3, 0), hz_i a1, .inr (20, 0)] h (hz_o k) hr ∧ hz_hout hz_IOB res k h1 hr := by
  match res, m, ok with
  | .inl (some (.inl (.int x))), m, ok =>
    refine ⟨0, hq_sl h1 20 0 0 x.toInt64, hq_introK (ls := [some (.inr (3, 0)), some (hz_i a1), some (.inr (20, 0)), none]) (by decide +kernel) rfl (fun _ => Nat.le_of_ble_eq_true rfl) (fun _ => trivial) (bL_go d _ _ _ _ _ ?_), rfl, rfl⟩
    exact ⟨[hz_i a1], 0, [.inl (.int 0), .inr (20, 0)], rfl, rfl, by decide, _, _, m, ⟨0, by decide, rfl, rfl, rfl⟩⟩
  | .inr E, m, ok =>
    rcases ok with rfl | rfl
    · refine ⟨1, h1, hq_introK (ls := [some (.inr (3, 0)), some (hz_i a1), some (.inr (20, 0)), none]) (by decide +kernel) rfl (fun _ => Nat.le_of_ble_eq_true rfl) (fun _ => trivial) (bL_go d _ _ _ _ _ ?_), (if_pos rfl).symm, rfl⟩
      exact ⟨[hz_i a1], 0, [.inl (.int 0), .inr (20, 0)], rfl, rfl, by decide, _, _, m, Or.inl ⟨rfl, fun q => ⟨rfl, rfl⟩⟩⟩
    · refine ⟨2, h1, hq_introK (ls := [some (.inr (3, 0)), some (hz_i a1), some (.inr (20, 0)), none]) (by decide +kernel) rfl (fun _ => Nat.le_of_ble_eq_true rfl) (fun _ => trivial) (bL_go d _ _ _ _ _ ?_), (if_neg (by decide)).symm, rfl⟩
      exact ⟨[hz_i a1], 0, [.inl (.int 0), .inr (20, 0)], rfl, rfl, by decide, _, _, m, Or.inr ⟨rfl, fun q => ⟨rfl, rfl⟩⟩⟩
abbrev ML_pass : hq_M := (yL_pass, cL_pass, 4, (some .int))
def hhL_pass : hq_HH := [(0, 9, 12, 13)]
theorem mdL_pass : hq_mk ML_pass hhL_pass 3 := ⟨⟨by decide +kernel, by decide +kernel, by decide +kernel⟩, hq_m4 76 rfl rfl, hq_m1 0 rfl rfl, by decide, by decide +kernel, hq_m4 75 rfl rfl⟩
theorem wLM_37 : Cond.methodLink RL 37 yX6_pass ∈ hq_ws := hq_m4 77 rfl rfl
theorem catL_pass_0 : hq_cat ML_pass hhL_pass 4 hz_IAE 12 := ⟨[], ⟨0, 9, 12, 13⟩, [], hz_IAE, rfl, fun z hz => absurd hz List.not_mem_nil, by decide, by decide, rfl, wLC_13, List.mem_of_getElem? (i := 0) rfl⟩
theorem bL_pass (d : Nat) (res : hq_R) (hr : hq_H) : hq_S (hq_Gk ML_pass hhL_pass res hr 0) ML_pass d 0 (hk_aload 2 (hk_iconst 0 (hk_aload 0 (hk_iload 1 (hk_tc 1 3 d MX6_pass hz_IAE hz_IAE (hk_i2l (hk_last 20 1 (hk_goto (hk_iconst 0 (hk_iret res hr))))) (hk_astoreX 3 (hk_iconst 1 (hk_iret res hr))) (hk_astoreX 3 (hk_iconst 1 (hk_iret res hr)))))))) := (hs_aload_n dL_pass_0 rfl (hs_iconst dL_pass_1 (by decide) (hs_aload_n dL_pass_2 rfl (hs_iload_n dL_pass_3 rfl (hs_tc (ci := 6) (N := 9) (T := TX6) dL_pass_4 mdX6_pass wLM_37 rfl rfl catL_pass_0 catL_pass_0 (hs_i2l dL_pass_7 (hs_last dL_pass_8 rfl (by decide) (hs_goto dL_pass_9 (by decide) (hs_iconst dL_pass_15 (by decide) (hs_iretK (by decide) dL_pass_16 rfl))))) (hs_astoreX_n dL_pass_12 rfl (Nat.le_of_ble_eq_true rfl) (hs_iconst dL_pass_13 (by decide) (hs_iretK (by decide) dL_pass_14 rfl))) (hs_astoreX_n dL_pass_12 rfl (Nat.le_of_ble_eq_true rfl) (hs_iconst dL_pass_13 (by decide) (hs_iretK (by decide) dL_pass_14 rfl))))))))
theorem hL_pass (d : Nat) (a1 : Int32) (h h1 : hq_H) (res : hq_R) (m : hq_Met d MX6_pass [.inr (3, 0), hz_i a1] h res h1) (ok : hz_thr hz_IAE hz_IAE res) : ∃ (k : Int32) (hr : hq_H), hq_MetK (d + 1) ML_pass hhL_pass [.inr (3, 0), hz_i a1, .inr (20, 0)] h (hz_o k) hr ∧ hz_hout hz_IAE res k h1 hr := by
  match res, m, ok with
  | .inl (some (.inl (.int x))), m, ok =>
    refine ⟨0, hq_sl h1 20 0 0 x.toInt64, hq_introK (ls := [some (.inr (3, 0)), some (hz_i a1), some (.inr (20, 0)), none]) (by decide +kernel) rfl (fun _ => Nat.le_of_ble_eq_true rfl) (fun _ => trivial) (bL_pass d _ _ _ _ _ ?_), rfl, rfl⟩
    exact ⟨[hz_i a1], 0, [.inl (.int 0), .inr (20, 0)], rfl, rfl, by decide, _, _, m, ⟨0, by decide, rfl, rfl, rfl⟩⟩
  | .inr E, m, ok =>
    rcases ok with rfl | rfl
    · refine ⟨1, h1, hq_introK (ls := [some (.inr (3, 0)), some (hz_i a1), some (.inr (20, 0)), none]) (by decide +kernel) rfl (fun _ => Nat.le_of_ble_eq_true rfl) (fun _ => trivial) (bL_pass d _ _ _ _ _ ?_), (if_pos rfl).symm, rfl⟩
      exact ⟨[hz_i a1], 0, [.inl (.int 0), .inr (20, 0)], rfl, rfl, by decide, _, _, m, Or.inl ⟨rfl, fun q => ⟨rfl, rfl⟩⟩⟩
    · refine ⟨1, h1, hq_introK (ls := [some (.inr (3, 0)), some (hz_i a1), some (.inr (20, 0)), none]) (by decide +kernel) rfl (fun _ => Nat.le_of_ble_eq_true rfl) (fun _ => trivial) (bL_pass d _ _ _ _ _ ?_), (if_pos rfl).symm, rfl⟩
      exact ⟨[hz_i a1], 0, [.inl (.int 0), .inr (20, 0)], rfl, rfl, by decide, _, _, m, Or.inl ⟨rfl, fun q => ⟨rfl, rfl⟩⟩⟩
abbrev ML_append : hq_M := (yL_append, cL_append, 4, (some .int))
def hhL_append : hq_HH := [(0, 9, 12, 13), (0, 9, 15, 15)]
theorem mdL_append : hq_mk ML_append hhL_append 3 := ⟨⟨by decide +kernel, by decide +kernel, by decide +kernel⟩, hq_m4 95 rfl rfl, hq_m1 0 rfl rfl, by decide, by decide +kernel, hq_m4 94 rfl rfl⟩
theorem wLM_40 : Cond.methodLink RL 40 yX6_append ∈ hq_ws := hq_m4 96 rfl rfl
theorem catL_append_0 : hq_cat ML_append hhL_append 4 hz_IAE 12 := ⟨[], ⟨0, 9, 12, 13⟩, [⟨0, 9, 15, 15⟩], hz_IAE, rfl, fun z hz => absurd hz List.not_mem_nil, by decide, by decide, rfl, wLC_13, List.mem_of_getElem? (i := 0) rfl⟩
theorem catL_append_1 : hq_cat ML_append hhL_append 4 hz_ISE 15 := ⟨[⟨0, 9, 12, 13⟩], ⟨0, 9, 15, 15⟩, [], hz_ISE, rfl, fun z hz => by
  rw [List.mem_singleton.mp hz]
  exact ⟨by decide, hz_IAE, wLC_13, by decide +kernel⟩, by decide, by decide, rfl, wLC_15, List.mem_of_getElem? (i := 7) rfl⟩
theorem bL_append (d : Nat) (res : hq_R) (hr : hq_H) : hq_S (hq_Gk ML_append hhL_append res hr 0) ML_append d 0 (hk_aload 2 (hk_iconst 0 (hk_aload 0 (hk_iload 1 (hk_tc 1 3 d MX6_append hz_IAE hz_ISE (hk_i2l (hk_last 20 1 (hk_goto (hk_iconst 0 (hk_iret res hr))))) (hk_astoreX 3 (hk_iconst 1 (hk_iret res hr))) (hk_astoreX 3 (hk_iconst 2 (hk_iret res hr)))))))) := (hs_aload_n dL_append_0 rfl (hs_iconst dL_append_1 (by decide) (hs_aload_n dL_append_2 rfl (hs_iload_n dL_append_3 rfl (hs_tc (ci := 6) (N := 9) (T := TX6) dL_append_4 mdX6_append wLM_40 rfl rfl catL_append_0 catL_append_1 (hs_i2l dL_append_7 (hs_last dL_append_8 rfl (by decide) (hs_goto dL_append_9 (by decide) (hs_iconst dL_append_18 (by decide) (hs_iretK (by decide) dL_append_19 rfl))))) (hs_astoreX_n dL_append_12 rfl (Nat.le_of_ble_eq_true rfl) (hs_iconst dL_append_13 (by decide) (hs_iretK (by decide) dL_append_14 rfl))) (hs_astoreX_n dL_append_15 rfl (Nat.le_of_ble_eq_true rfl) (hs_iconst dL_append_16 (by decide) (hs_iretK (by decide) dL_append_17 rfl))))))))
theorem hL_append (d : Nat) (a1 : Int32) (h h1 : hq_H) (res : hq_R) (m : hq_Met d MX6_append [.inr (3, 0), hz_i a1] h res h1) (ok : hz_thr hz_IAE hz_ISE res) : ∃ (k : Int32) (hr : hq_H), hq_MetK (d + 1) ML_append hhL_append [.inr (3, 0), hz_i a1, .inr (20, 0)] h (hz_o k) hr ∧ hz_hout hz_IAE res k h1 hr := by
  match res, m, ok with
  | .inl (some (.inl (.int x))), m, ok =>
    refine ⟨0, hq_sl h1 20 0 0 x.toInt64, hq_introK (ls := [some (.inr (3, 0)), some (hz_i a1), some (.inr (20, 0)), none]) (by decide +kernel) rfl (fun _ => Nat.le_of_ble_eq_true rfl) (fun _ => trivial) (bL_append d _ _ _ _ _ ?_), rfl, rfl⟩
    exact ⟨[hz_i a1], 0, [.inl (.int 0), .inr (20, 0)], rfl, rfl, by decide, _, _, m, ⟨0, by decide, rfl, rfl, rfl⟩⟩
  | .inr E, m, ok =>
    rcases ok with rfl | rfl
    · refine ⟨1, h1, hq_introK (ls := [some (.inr (3, 0)), some (hz_i a1), some (.inr (20, 0)), none]) (by decide +kernel) rfl (fun _ => Nat.le_of_ble_eq_true rfl) (fun _ => trivial) (bL_append d _ _ _ _ _ ?_), (if_pos rfl).symm, rfl⟩
      exact ⟨[hz_i a1], 0, [.inl (.int 0), .inr (20, 0)], rfl, rfl, by decide, _, _, m, Or.inl ⟨rfl, fun q => ⟨rfl, rfl⟩⟩⟩
    · refine ⟨2, h1, hq_introK (ls := [some (.inr (3, 0)), some (hz_i a1), some (.inr (20, 0)), none]) (by decide +kernel) rfl (fun _ => Nat.le_of_ble_eq_true rfl) (fun _ => trivial) (bL_append d _ _ _ _ _ ?_), (if_neg (by decide)).symm, rfl⟩
      exact ⟨[hz_i a1], 0, [.inl (.int 0), .inr (20, 0)], rfl, rfl, by decide, _, _, m, Or.inr ⟨rfl, fun q => ⟨rfl, rfl⟩⟩⟩
abbrev ML_runLog : hq_M := (yL_runLog, cL_runLog, 3, (some .int))
def hhL_runLog : hq_HH := [(0, 8, 11, 13)]
theorem mdL_runLog : hq_mk ML_runLog hhL_runLog 2 := ⟨⟨by decide +kernel, by decide +kernel, by decide +kernel⟩, hq_m4 104 rfl rfl, hq_m1 0 rfl rfl, by decide, by decide +kernel, hq_m4 103 rfl rfl⟩
theorem wLM_43 : Cond.methodLink RL 43 yX6_runLog ∈ hq_ws := hq_m4 105 rfl rfl
theorem catL_runLog_0 : hq_cat ML_runLog hhL_runLog 3 hz_IAE 11 := ⟨[], ⟨0, 8, 11, 13⟩, [], hz_IAE, rfl, fun z hz => absurd hz List.not_mem_nil, by decide, by decide, rfl, wLC_13, List.mem_of_getElem? (i := 0) rfl⟩
theorem bL_runLog (d : Nat) (res : hq_R) (hr : hq_H) : hq_S (hq_Gk ML_runLog hhL_runLog res hr 0) ML_runLog d 0 (hk_aload 1 (hk_iconst 0 (hk_aload 0 (hk_tc 0 3 d MX6_runLog hz_IAE hz_IAE (hk_i2l (hk_last 20 1 (hk_goto (hk_iconst 0 (hk_iret res hr))))) (hk_astoreX 2 (hk_iconst 1 (hk_iret res hr))) (hk_astoreX 2 (hk_iconst 1 (hk_iret res hr))))))) := (hs_aload_n dL_runLog_0 rfl (hs_iconst dL_runLog_1 (by decide) (hs_aload_n dL_runLog_2 rfl (hs_tc (ci := 6) (N := 9) (T := TX6) dL_runLog_3 mdX6_runLog wLM_43 rfl rfl catL_runLog_0 catL_runLog_0 (hs_i2l dL_runLog_6 (hs_last dL_runLog_7 rfl (by decide) (hs_goto dL_runLog_8 (by decide) (hs_iconst dL_runLog_14 (by decide) (hs_iretK (by decide) dL_runLog_15 rfl))))) (hs_astoreX_n dL_runLog_11 rfl (Nat.le_of_ble_eq_true rfl) (hs_iconst dL_runLog_12 (by decide) (hs_iretK (by decide) dL_runLog_13 rfl))) (hs_astoreX_n dL_runLog_11 rfl (Nat.le_of_ble_eq_true rfl) (hs_iconst dL_runLog_12 (by decide) (hs_iretK (by decide) dL_runLog_13 rfl)))))))
theorem hL_runLog (d : Nat)  (h h1 : hq_H) (res : hq_R) (m : hq_Met d MX6_runLog [.inr (3, 0)] h res h1) (ok : hz_thr hz_IAE hz_IAE res) : ∃ (k : Int32) (hr : hq_H), hq_MetK (d + 1) ML_runLog hhL_runLog [.inr (3, 0), .inr (20, 0)] h (hz_o k) hr ∧ hz_hout hz_IAE res k h1 hr := by
  match res, m, ok with
  | .inl (some (.inl (.int x))), m, ok =>
    refine ⟨0, hq_sl h1 20 0 0 x.toInt64, hq_introK (ls := [some (.inr (3, 0)), some (.inr (20, 0)), none]) (by decide +kernel) rfl (fun _ => Nat.le_of_ble_eq_true rfl) (fun _ => trivial) (bL_runLog d _ _ _ _ _ ?_), rfl, rfl⟩
    exact ⟨[], 0, [.inl (.int 0), .inr (20, 0)], rfl, rfl, by decide, _, _, m, ⟨0, by decide, rfl, rfl, rfl⟩⟩
  | .inr E, m, ok =>
    rcases ok with rfl | rfl
    · refine ⟨1, h1, hq_introK (ls := [some (.inr (3, 0)), some (.inr (20, 0)), none]) (by decide +kernel) rfl (fun _ => Nat.le_of_ble_eq_true rfl) (fun _ => trivial) (bL_runLog d _ _ _ _ _ ?_), (if_pos rfl).symm, rfl⟩
      exact ⟨[], 0, [.inl (.int 0), .inr (20, 0)], rfl, rfl, by decide, _, _, m, Or.inl ⟨rfl, fun q => ⟨rfl, rfl⟩⟩⟩
    · refine ⟨1, h1, hq_introK (ls := [some (.inr (3, 0)), some (.inr (20, 0)), none]) (by decide +kernel) rfl (fun _ => Nat.le_of_ble_eq_true rfl) (fun _ => trivial) (bL_runLog d _ _ _ _ _ ?_), (if_pos rfl).symm, rfl⟩
      exact ⟨[], 0, [.inl (.int 0), .inr (20, 0)], rfl, rfl, by decide, _, _, m, Or.inl ⟨rfl, fun q => ⟨rfl, rfl⟩⟩⟩
abbrev ML_goBack : hq_M := (yL_goBack, cL_goBack, 3, (some .int))
def hhL_goBack : hq_HH := [(0, 8, 11, 15)]
theorem mdL_goBack : hq_mk ML_goBack hhL_goBack 2 := ⟨⟨by decide +kernel, by decide +kernel, by decide +kernel⟩, hq_m4 124 rfl rfl, hq_m1 0 rfl rfl, by decide, by decide +kernel, hq_m4 123 rfl rfl⟩
theorem wLM_47 : Cond.methodLink RL 47 yX6_goBack ∈ hq_ws := hq_m4 125 rfl rfl
theorem catL_goBack_0 : hq_cat ML_goBack hhL_goBack 3 hz_ISE 11 := ⟨[], ⟨0, 8, 11, 15⟩, [], hz_ISE, rfl, fun z hz => absurd hz List.not_mem_nil, by decide, by decide, rfl, wLC_15, List.mem_of_getElem? (i := 7) rfl⟩
theorem bL_goBack (d : Nat) (res : hq_R) (hr : hq_H) : hq_S (hq_Gk ML_goBack hhL_goBack res hr 0) ML_goBack d 0 (hk_aload 1 (hk_iconst 0 (hk_aload 0 (hk_tc 0 3 d MX6_goBack hz_ISE hz_ISE (hk_i2l (hk_last 20 1 (hk_goto (hk_iconst 0 (hk_iret res hr))))) (hk_astoreX 2 (hk_iconst 1 (hk_iret res hr))) (hk_astoreX 2 (hk_iconst 1 (hk_iret res hr))))))) := (hs_aload_n dL_goBack_0 rfl (hs_iconst dL_goBack_1 (by decide) (hs_aload_n dL_goBack_2 rfl (hs_tc (ci := 6) (N := 9) (T := TX6) dL_goBack_3 mdX6_goBack wLM_47 rfl rfl catL_goBack_0 catL_goBack_0 (hs_i2l dL_goBack_6 (hs_last dL_goBack_7 rfl (by decide) (hs_goto dL_goBack_8 (by decide) (hs_iconst dL_goBack_14 (by decide) (hs_iretK (by decide) dL_goBack_15 rfl))))) (hs_astoreX_n dL_goBack_11 rfl (Nat.le_of_ble_eq_true rfl) (hs_iconst dL_goBack_12 (by decide) (hs_iretK (by decide) dL_goBack_13 rfl))) (hs_astoreX_n dL_goBack_11 rfl (Nat.le_of_ble_eq_true rfl) (hs_iconst dL_goBack_12 (by decide) (hs_iretK (by decide) dL_goBack_13 rfl)))))))
theorem hL_goBack (d : Nat)  (h h1 : hq_H) (res : hq_R) (m : hq_Met d MX6_goBack [.inr (3, 0)] h res h1) (ok : hz_thr hz_ISE hz_ISE res) : ∃ (k : Int32) (hr : hq_H), hq_MetK (d + 1) ML_goBack hhL_goBack [.inr (3, 0), .inr (20, 0)] h (hz_o k) hr ∧ hz_hout hz_ISE res k h1 hr := by
  match res, m, ok with
  | .inl (some (.inl (.int x))), m, ok =>
    refine ⟨0, hq_sl h1 20 0 0 x.toInt64, hq_introK (ls := [some (.inr (3, 0)), some (.inr (20, 0)), none]) (by decide +kernel) rfl (fun _ => Nat.le_of_ble_eq_true rfl) (fun _ => trivial) (bL_goBack d _ _ _ _ _ ?_), rfl, rfl⟩
    exact ⟨[], 0, [.inl (.int 0), .inr (20, 0)], rfl, rfl, by decide, _, _, m, ⟨0, by decide, rfl, rfl, rfl⟩⟩
  | .inr E, m, ok =>
    rcases ok with rfl | rfl
    · refine ⟨1, h1, hq_introK (ls := [some (.inr (3, 0)), some (.inr (20, 0)), none]) (by decide +kernel) rfl (fun _ => Nat.le_of_ble_eq_true rfl) (fun _ => trivial) (bL_goBack d _ _ _ _ _ ?_), (if_pos rfl).symm, rfl⟩
      exact ⟨[], 0, [.inl (.int 0), .inr (20, 0)], rfl, rfl, by decide, _, _, m, Or.inl ⟨rfl, fun q => ⟨rfl, rfl⟩⟩⟩
    · refine ⟨1, h1, hq_introK (ls := [some (.inr (3, 0)), some (.inr (20, 0)), none]) (by decide +kernel) rfl (fun _ => Nat.le_of_ble_eq_true rfl) (fun _ => trivial) (bL_goBack d _ _ _ _ _ ?_), (if_pos rfl).symm, rfl⟩
      exact ⟨[], 0, [.inl (.int 0), .inr (20, 0)], rfl, rfl, by decide, _, _, m, Or.inl ⟨rfl, fun q => ⟨rfl, rfl⟩⟩⟩
abbrev ML_undo : hq_M := (yL_undo, cL_undo, 3, (some .int))
def hhL_undo : hq_HH := [(0, 8, 11, 15)]
theorem mdL_undo : hq_mk ML_undo hhL_undo 2 := ⟨⟨by decide +kernel, by decide +kernel, by decide +kernel⟩, hq_m4 132 rfl rfl, hq_m1 0 rfl rfl, by decide, by decide +kernel, hq_m4 131 rfl rfl⟩
theorem wLM_50 : Cond.methodLink RL 50 yX6_undo ∈ hq_ws := hq_m4 133 rfl rfl
theorem catL_undo_0 : hq_cat ML_undo hhL_undo 3 hz_ISE 11 := ⟨[], ⟨0, 8, 11, 15⟩, [], hz_ISE, rfl, fun z hz => absurd hz List.not_mem_nil, by decide, by decide, rfl, wLC_15, List.mem_of_getElem? (i := 7) rfl⟩
theorem bL_undo (d : Nat) (res : hq_R) (hr : hq_H) : hq_S (hq_Gk ML_undo hhL_undo res hr 0) ML_undo d 0 (hk_aload 1 (hk_iconst 0 (hk_aload 0 (hk_tc 0 3 d MX6_undo hz_ISE hz_ISE (hk_i2l (hk_last 20 1 (hk_goto (hk_iconst 0 (hk_iret res hr))))) (hk_astoreX 2 (hk_iconst 1 (hk_iret res hr))) (hk_astoreX 2 (hk_iconst 1 (hk_iret res hr))))))) := (hs_aload_n dL_undo_0 rfl (hs_iconst dL_undo_1 (by decide) (hs_aload_n dL_undo_2 rfl (hs_tc (ci := 6) (N := 9) (T := TX6) dL_undo_3 mdX6_undo wLM_50 rfl rfl catL_undo_0 catL_undo_0 (hs_i2l dL_undo_6 (hs_last dL_undo_7 rfl (by decide) (hs_goto dL_undo_8 (by decide) (hs_iconst dL_undo_14 (by decide) (hs_iretK (by decide) dL_undo_15 rfl))))) (hs_astoreX_n dL_undo_11 rfl (Nat.le_of_ble_eq_true rfl) (hs_iconst dL_undo_12 (by decide) (hs_iretK (by decide) dL_undo_13 rfl))) (hs_astoreX_n dL_undo_11 rfl (Nat.le_of_ble_eq_true rfl) (hs_iconst dL_undo_12 (by decide) (hs_iretK (by decide) dL_undo_13 rfl)))))))
theorem hL_undo (d : Nat)  (h h1 : hq_H) (res : hq_R) (m : hq_Met d MX6_undo [.inr (3, 0)] h res h1) (ok : hz_thr hz_ISE hz_ISE res) : ∃ (k : Int32) (hr : hq_H), hq_MetK (d + 1) ML_undo hhL_undo [.inr (3, 0), .inr (20, 0)] h (hz_o k) hr ∧ hz_hout hz_ISE res k h1 hr := by
  match res, m, ok with
  | .inl (some (.inl (.int x))), m, ok =>
    refine ⟨0, hq_sl h1 20 0 0 x.toInt64, hq_introK (ls := [some (.inr (3, 0)), some (.inr (20, 0)), none]) (by decide +kernel) rfl (fun _ => Nat.le_of_ble_eq_true rfl) (fun _ => trivial) (bL_undo d _ _ _ _ _ ?_), rfl, rfl⟩
    exact ⟨[], 0, [.inl (.int 0), .inr (20, 0)], rfl, rfl, by decide, _, _, m, ⟨0, by decide, rfl, rfl, rfl⟩⟩
  | .inr E, m, ok =>
    rcases ok with rfl | rfl
    · refine ⟨1, h1, hq_introK (ls := [some (.inr (3, 0)), some (.inr (20, 0)), none]) (by decide +kernel) rfl (fun _ => Nat.le_of_ble_eq_true rfl) (fun _ => trivial) (bL_undo d _ _ _ _ _ ?_), (if_pos rfl).symm, rfl⟩
      exact ⟨[], 0, [.inl (.int 0), .inr (20, 0)], rfl, rfl, by decide, _, _, m, Or.inl ⟨rfl, fun q => ⟨rfl, rfl⟩⟩⟩
    · refine ⟨1, h1, hq_introK (ls := [some (.inr (3, 0)), some (.inr (20, 0)), none]) (by decide +kernel) rfl (fun _ => Nat.le_of_ble_eq_true rfl) (fun _ => trivial) (bL_undo d _ _ _ _ _ ?_), (if_pos rfl).symm, rfl⟩
      exact ⟨[], 0, [.inl (.int 0), .inr (20, 0)], rfl, rfl, by decide, _, _, m, Or.inl ⟨rfl, fun q => ⟨rfl, rfl⟩⟩⟩
abbrev ML_shouldBeLet : hq_M := (yL_shouldBeLet, cL_shouldBeLet, 4, (some .int))
def hhL_shouldBeLet : hq_HH := [(0, 9, 12, 21)]
theorem mdL_shouldBeLet : hq_mk ML_shouldBeLet hhL_shouldBeLet 3 := ⟨⟨by decide +kernel, by decide +kernel, by decide +kernel⟩, hq_m4 144 rfl rfl, hq_m1 0 rfl rfl, by decide, by decide +kernel, hq_m4 143 rfl rfl⟩
theorem wLM_53 : Cond.methodLink RL 53 yX6_shouldBeLet ∈ hq_ws := hq_m4 145 rfl rfl
theorem catL_shouldBeLet_0 : hq_cat ML_shouldBeLet hhL_shouldBeLet 4 hz_IOB 12 := ⟨[], ⟨0, 9, 12, 21⟩, [], hz_IOB, rfl, fun z hz => absurd hz List.not_mem_nil, by decide, by decide, rfl, wLC_21, List.mem_of_getElem? (i := 8) rfl⟩
theorem bL_shouldBeLet (d : Nat) (res : hq_R) (hr : hq_H) : hq_S (hq_Gk ML_shouldBeLet hhL_shouldBeLet res hr 0) ML_shouldBeLet d 0 (hk_aload 2 (hk_iconst 0 (hk_aload 0 (hk_iload 1 (hk_tc 1 3 d MX6_shouldBeLet hz_IOB hz_IOB (hk_i2l (hk_last 20 1 (hk_goto (hk_iconst 0 (hk_iret res hr))))) (hk_astoreX 3 (hk_iconst 1 (hk_iret res hr))) (hk_astoreX 3 (hk_iconst 1 (hk_iret res hr)))))))) := (hs_aload_n dL_shouldBeLet_0 rfl (hs_iconst dL_shouldBeLet_1 (by decide) (hs_aload_n dL_shouldBeLet_2 rfl (hs_iload_n dL_shouldBeLet_3 rfl (hs_tc (ci := 6) (N := 9) (T := TX6) dL_shouldBeLet_4 mdX6_shouldBeLet wLM_53 rfl rfl catL_shouldBeLet_0 catL_shouldBeLet_0 (hs_i2l dL_shouldBeLet_7 (hs_last dL_shouldBeLet_8 rfl (by decide) (hs_goto dL_shouldBeLet_9 (by decide) (hs_iconst dL_shouldBeLet_15 (by decide) (hs_iretK (by decide) dL_shouldBeLet_16 rfl))))) (hs_astoreX_n dL_shouldBeLet_12 rfl (Nat.le_of_ble_eq_true rfl) (hs_iconst dL_shouldBeLet_13 (by decide) (hs_iretK (by decide) dL_shouldBeLet_14 rfl))) (hs_astoreX_n dL_shouldBeLet_12 rfl (Nat.le_of_ble_eq_true rfl) (hs_iconst dL_shouldBeLet_13 (by decide) (hs_iretK (by decide) dL_shouldBeLet_14 rfl))))))))
theorem hL_shouldBeLet (d : Nat) (a1 : Int32) (h h1 : hq_H) (res : hq_R) (m : hq_Met d MX6_shouldBeLet [.inr (3, 0), hz_i a1] h res h1) (ok : hz_thr hz_IOB hz_IOB res) : ∃ (k : Int32) (hr : hq_H), hq_MetK (d + 1) ML_shouldBeLet hhL_shouldBeLet [.inr (3, 0), hz_i a1, .inr (20, 0)] h (hz_o k) hr ∧ hz_hout hz_IOB res k h1 hr := by
  match res, m, ok with
  | .inl (some (.inl (.int x))), m, ok =>
    refine ⟨0, hq_sl h1 20 0 0 x.toInt64, hq_introK (ls := [some (.inr (3, 0)), some (hz_i a1), some (.inr (20, 0)), none]) (by decide +kernel) rfl (fun _ => Nat.le_of_ble_eq_true rfl) (fun _ => trivial) (bL_shouldBeLet d _ _ _ _ _ ?_), rfl, rfl⟩
    exact ⟨[hz_i a1], 0, [.inl (.int 0), .inr (20, 0)], rfl, rfl, by decide, _, _, m, ⟨0, by decide, rfl, rfl, rfl⟩⟩
  | .inr E, m, ok =>
    rcases ok with rfl | rfl
    · refine ⟨1, h1, hq_introK (ls := [some (.inr (3, 0)), some (hz_i a1), some (.inr (20, 0)), none]) (by decide +kernel) rfl (fun _ => Nat.le_of_ble_eq_true rfl) (fun _ => trivial) (bL_shouldBeLet d _ _ _ _ _ ?_), (if_pos rfl).symm, rfl⟩
      exact ⟨[hz_i a1], 0, [.inl (.int 0), .inr (20, 0)], rfl, rfl, by decide, _, _, m, Or.inl ⟨rfl, fun q => ⟨rfl, rfl⟩⟩⟩
    · refine ⟨1, h1, hq_introK (ls := [some (.inr (3, 0)), some (hz_i a1), some (.inr (20, 0)), none]) (by decide +kernel) rfl (fun _ => Nat.le_of_ble_eq_true rfl) (fun _ => trivial) (bL_shouldBeLet d _ _ _ _ _ ?_), (if_pos rfl).symm, rfl⟩
      exact ⟨[hz_i a1], 0, [.inl (.int 0), .inr (20, 0)], rfl, rfl, by decide, _, _, m, Or.inl ⟨rfl, fun q => ⟨rfl, rfl⟩⟩⟩
abbrev ML_shouldBeEmpty : hq_M := (yL_shouldBeEmpty, cL_shouldBeEmpty, 4, (some .int))
def hhL_shouldBeEmpty : hq_HH := [(0, 9, 12, 21)]
theorem mdL_shouldBeEmpty : hq_mk ML_shouldBeEmpty hhL_shouldBeEmpty 3 := ⟨⟨by decide +kernel, by decide +kernel, by decide +kernel⟩, hq_m4 151 rfl rfl, hq_m1 0 rfl rfl, by decide, by decide +kernel, hq_m4 150 rfl rfl⟩
theorem wLM_56 : Cond.methodLink RL 56 yX6_shouldBeEmpty ∈ hq_ws := hq_m4 152 rfl rfl
theorem catL_shouldBeEmpty_0 : hq_cat ML_shouldBeEmpty hhL_shouldBeEmpty 4 hz_IOB 12 := ⟨[], ⟨0, 9, 12, 21⟩, [], hz_IOB, rfl, fun z hz => absurd hz List.not_mem_nil, by decide, by decide, rfl, wLC_21, List.mem_of_getElem? (i := 8) rfl⟩
theorem bL_shouldBeEmpty (d : Nat) (res : hq_R) (hr : hq_H) : hq_S (hq_Gk ML_shouldBeEmpty hhL_shouldBeEmpty res hr 0) ML_shouldBeEmpty d 0 (hk_aload 2 (hk_iconst 0 (hk_aload 0 (hk_iload 1 (hk_tc 1 3 d MX6_shouldBeEmpty hz_IOB hz_IOB (hk_i2l (hk_last 20 1 (hk_goto (hk_iconst 0 (hk_iret res hr))))) (hk_astoreX 3 (hk_iconst 1 (hk_iret res hr))) (hk_astoreX 3 (hk_iconst 1 (hk_iret res hr)))))))) := (hs_aload_n dL_shouldBeEmpty_0 rfl (hs_iconst dL_shouldBeEmpty_1 (by decide) (hs_aload_n dL_shouldBeEmpty_2 rfl (hs_iload_n dL_shouldBeEmpty_3 rfl (hs_tc (ci := 6) (N := 9) (T := TX6) dL_shouldBeEmpty_4 mdX6_shouldBeEmpty wLM_56 rfl rfl catL_shouldBeEmpty_0 catL_shouldBeEmpty_0 (hs_i2l dL_shouldBeEmpty_7 (hs_last dL_shouldBeEmpty_8 rfl (by decide) (hs_goto dL_shouldBeEmpty_9 (by decide) (hs_iconst dL_shouldBeEmpty_15 (by decide) (hs_iretK (by decide) dL_shouldBeEmpty_16 rfl))))) (hs_astoreX_n dL_shouldBeEmpty_12 rfl (Nat.le_of_ble_eq_true rfl) (hs_iconst dL_shouldBeEmpty_13 (by decide) (hs_iretK (by decide) dL_shouldBeEmpty_14 rfl))) (hs_astoreX_n dL_shouldBeEmpty_12 rfl (Nat.le_of_ble_eq_true rfl) (hs_iconst dL_shouldBeEmpty_13 (by decide) (hs_iretK (by decide) dL_shouldBeEmpty_14 rfl))))))))
theorem hL_shouldBeEmpty (d : Nat) (a1 : Int32) (h h1 : hq_H) (res : hq_R) (m : hq_Met d MX6_shouldBeEmpty [.inr (3, 0), hz_i a1] h res h1) (ok : hz_thr hz_IOB hz_IOB res) : ∃ (k : Int32) (hr : hq_H), hq_MetK (d + 1) ML_shouldBeEmpty hhL_shouldBeEmpty [.inr (3, 0), hz_i a1, .inr (20, 0)] h (hz_o k) hr ∧ hz_hout hz_IOB res k h1 hr := by
  match res, m, ok with
  | .inl (some (.inl (.int x))), m, ok =>
    refine ⟨0, hq_sl h1 20 0 0 x.toInt64, hq_introK (ls := [some (.inr (3, 0)), some (hz_i a1), some (.inr (20, 0)), none]) (by decide +kernel) rfl (fun _ => Nat.le_of_ble_eq_true rfl) (fun _ => trivial) (bL_shouldBeEmpty d _ _ _ _ _ ?_), rfl, rfl⟩
    exact ⟨[hz_i a1], 0, [.inl (.int 0), .inr (20, 0)], rfl, rfl, by decide, _, _, m, ⟨0, by decide, rfl, rfl, rfl⟩⟩
  | .inr E, m, ok =>
    rcases ok with rfl | rfl
    · refine ⟨1, h1, hq_introK (ls := [some (.inr (3, 0)), some (hz_i a1), some (.inr (20, 0)), none]) (by decide +kernel) rfl (fun _ => Nat.le_of_ble_eq_true rfl) (fun _ => trivial) (bL_shouldBeEmpty d _ _ _ _ _ ?_), (if_pos rfl).symm, rfl⟩
      exact ⟨[hz_i a1], 0, [.inl (.int 0), .inr (20, 0)], rfl, rfl, by decide, _, _, m, Or.inl ⟨rfl, fun q => ⟨rfl, rfl⟩⟩⟩
    · refine ⟨1, h1, hq_introK (ls := [some (.inr (3, 0)), some (hz_i a1), some (.inr (20, 0)), none]) (by decide +kernel) rfl (fun _ => Nat.le_of_ble_eq_true rfl) (fun _ => trivial) (bL_shouldBeEmpty d _ _ _ _ _ ?_), (if_pos rfl).symm, rfl⟩
      exact ⟨[hz_i a1], 0, [.inl (.int 0), .inr (20, 0)], rfl, rfl, by decide, _, _, m, Or.inl ⟨rfl, fun q => ⟨rfl, rfl⟩⟩⟩
abbrev ML_fine : hq_M := (yL_fine, cL_fine, 4, (some .int))
def hhL_fine : hq_HH := [(0, 9, 12, 21)]
theorem mdL_fine : hq_mk ML_fine hhL_fine 3 := ⟨⟨by decide +kernel, by decide +kernel, by decide +kernel⟩, hq_m4 158 rfl rfl, hq_m1 0 rfl rfl, by decide, by decide +kernel, hq_m4 157 rfl rfl⟩
theorem wLM_59 : Cond.methodLink RL 59 yX6_fine ∈ hq_ws := hq_m4 159 rfl rfl
theorem catL_fine_0 : hq_cat ML_fine hhL_fine 4 hz_IOB 12 := ⟨[], ⟨0, 9, 12, 21⟩, [], hz_IOB, rfl, fun z hz => absurd hz List.not_mem_nil, by decide, by decide, rfl, wLC_21, List.mem_of_getElem? (i := 8) rfl⟩
theorem bL_fine (d : Nat) (res : hq_R) (hr : hq_H) : hq_S (hq_Gk ML_fine hhL_fine res hr 0) ML_fine d 0 (hk_aload 2 (hk_iconst 0 (hk_aload 0 (hk_iload 1 (hk_tc 1 3 d MX6_fine hz_IOB hz_IOB (hk_i2l (hk_last 20 1 (hk_goto (hk_iconst 0 (hk_iret res hr))))) (hk_astoreX 3 (hk_iconst 1 (hk_iret res hr))) (hk_astoreX 3 (hk_iconst 1 (hk_iret res hr)))))))) := (hs_aload_n dL_fine_0 rfl (hs_iconst dL_fine_1 (by decide) (hs_aload_n dL_fine_2 rfl (hs_iload_n dL_fine_3 rfl (hs_tc (ci := 6) (N := 9) (T := TX6) dL_fine_4 mdX6_fine wLM_59 rfl rfl catL_fine_0 catL_fine_0 (hs_i2l dL_fine_7 (hs_last dL_fine_8 rfl (by decide) (hs_goto dL_fine_9 (by decide) (hs_iconst dL_fine_15 (by decide) (hs_iretK (by decide) dL_fine_16 rfl))))) (hs_astoreX_n dL_fine_12 rfl (Nat.le_of_ble_eq_true rfl) (hs_iconst dL_fine_13 (by decide) (hs_iretK (by decide) dL_fine_14 rfl))) (hs_astoreX_n dL_fine_12 rfl (Nat.le_of_ble_eq_true rfl) (hs_iconst dL_fine_13 (by decide) (hs_iretK (by decide) dL_fine_14 rfl))))))))
theorem hL_fine (d : Nat) (a1 : Int32) (h h1 : hq_H) (res : hq_R) (m : hq_Met d MX6_fine [.inr (3, 0), hz_i a1] h res h1) (ok : hz_thr hz_IOB hz_IOB res) : ∃ (k : Int32) (hr : hq_H), hq_MetK (d + 1) ML_fine hhL_fine [.inr (3, 0), hz_i a1, .inr (20, 0)] h (hz_o k) hr ∧ hz_hout hz_IOB res k h1 hr := by
  match res, m, ok with
  | .inl (some (.inl (.int x))), m, ok =>
    refine ⟨0, hq_sl h1 20 0 0 x.toInt64, hq_introK (ls := [some (.inr (3, 0)), some (hz_i a1), some (.inr (20, 0)), none]) (by decide +kernel) rfl (fun _ => Nat.le_of_ble_eq_true rfl) (fun _ => trivial) (bL_fine d _ _ _ _ _ ?_), rfl, rfl⟩
    exact ⟨[hz_i a1], 0, [.inl (.int 0), .inr (20, 0)], rfl, rfl, by decide, _, _, m, ⟨0, by decide, rfl, rfl, rfl⟩⟩
  | .inr E, m, ok =>
    rcases ok with rfl | rfl
    · refine ⟨1, h1, hq_introK (ls := [some (.inr (3, 0)), some (hz_i a1), some (.inr (20, 0)), none]) (by decide +kernel) rfl (fun _ => Nat.le_of_ble_eq_true rfl) (fun _ => trivial) (bL_fine d _ _ _ _ _ ?_), (if_pos rfl).symm, rfl⟩
      exact ⟨[hz_i a1], 0, [.inl (.int 0), .inr (20, 0)], rfl, rfl, by decide, _, _, m, Or.inl ⟨rfl, fun q => ⟨rfl, rfl⟩⟩⟩
    · refine ⟨1, h1, hq_introK (ls := [some (.inr (3, 0)), some (hz_i a1), some (.inr (20, 0)), none]) (by decide +kernel) rfl (fun _ => Nat.le_of_ble_eq_true rfl) (fun _ => trivial) (bL_fine d _ _ _ _ _ ?_), (if_pos rfl).symm, rfl⟩
      exact ⟨[hz_i a1], 0, [.inl (.int 0), .inr (20, 0)], rfl, rfl, by decide, _, _, m, Or.inl ⟨rfl, fun q => ⟨rfl, rfl⟩⟩⟩
abbrev ML_isStrict : hq_M := (yL_isStrict, cL_isStrict, 4, (some .int))
def hhL_isStrict : hq_HH := [(0, 16, 19, 21)]
theorem mdL_isStrict : hq_mk ML_isStrict hhL_isStrict 3 := ⟨⟨by decide +kernel, by decide +kernel, by decide +kernel⟩, hq_m4 165 rfl rfl, hq_m1 0 rfl rfl, by decide, by decide +kernel, hq_m4 164 rfl rfl⟩
theorem wLM_62 : Cond.methodLink RL 62 yX6_isStrict ∈ hq_ws := hq_m4 166 rfl rfl
theorem catL_isStrict_0 : hq_cat ML_isStrict hhL_isStrict 4 hz_IOB 19 := ⟨[], ⟨0, 16, 19, 21⟩, [], hz_IOB, rfl, fun z hz => absurd hz List.not_mem_nil, by decide, by decide, rfl, wLC_21, List.mem_of_getElem? (i := 8) rfl⟩
theorem bL_isStrict (d : Nat) (res : hq_R) (hr : hq_H) : hq_S (hq_Gk ML_isStrict hhL_isStrict res hr 0) ML_isStrict d 0 (hk_aload 2 (hk_iconst 0 (hk_aload 0 (hk_iload 1 (hk_tc 1 3 d MX6_isStrict hz_IOB hz_IOB (hk_if_eq (hk_lconst 0 (hk_last 20 1 (hk_goto (hk_iconst 0 (hk_iret res hr))))) (hk_lconst 1 (hk_goto (hk_last 20 1 (hk_goto (hk_iconst 0 (hk_iret res hr))))))) (hk_astoreX 3 (hk_iconst 1 (hk_iret res hr))) (hk_astoreX 3 (hk_iconst 1 (hk_iret res hr)))))))) := (hs_aload_n dL_isStrict_0 rfl (hs_iconst dL_isStrict_1 (by decide) (hs_aload_n dL_isStrict_2 rfl (hs_iload_n dL_isStrict_3 rfl (hs_tc (ci := 6) (N := 9) (T := TX6) dL_isStrict_4 mdX6_isStrict wLM_62 rfl rfl catL_isStrict_0 catL_isStrict_0 (hs_if_eq dL_isStrict_7 (by decide) (hs_lconst dL_isStrict_14 (by decide) (hs_last dL_isStrict_15 rfl (by decide) (hs_goto dL_isStrict_16 (by decide) (hs_iconst dL_isStrict_22 (by decide) (hs_iretK (by decide) dL_isStrict_23 rfl))))) (hs_lconst dL_isStrict_10 (by decide) (hs_goto dL_isStrict_11 (by decide) (hs_last dL_isStrict_15 rfl (by decide) (hs_goto dL_isStrict_16 (by decide) (hs_iconst dL_isStrict_22 (by decide) (hs_iretK (by decide) dL_isStrict_23 rfl))))))) (hs_astoreX_n dL_isStrict_19 rfl (Nat.le_of_ble_eq_true rfl) (hs_iconst dL_isStrict_20 (by decide) (hs_iretK (by decide) dL_isStrict_21 rfl))) (hs_astoreX_n dL_isStrict_19 rfl (Nat.le_of_ble_eq_true rfl) (hs_iconst dL_isStrict_20 (by decide) (hs_iretK (by decide) dL_isStrict_21 rfl))))))))
theorem hL_isStrict (d : Nat) (a1 : Int32) (h h1 : hq_H) (res : hq_R) (m : hq_Met d MX6_isStrict [.inr (3, 0), hz_i a1] h res h1) (ok : hz_thrZ hz_IOB hz_IOB res) : ∃ (k : Int32) (hr : hq_H), hq_MetK (d + 1) ML_isStrict hhL_isStrict [.inr (3, 0), hz_i a1, .inr (20, 0)] h (hz_o k) hr ∧ hz_hout hz_IOB res k h1 hr := by
  match res, m, ok with
  | .inl (some (.inl (.int x))), m, ok =>
    rcases ok with rfl | rfl
    · refine ⟨0, hq_sl h1 20 0 0 0, hq_introK (ls := [some (.inr (3, 0)), some (hz_i a1), some (.inr (20, 0)), none]) (by decide +kernel) rfl (fun _ => Nat.le_of_ble_eq_true rfl) (fun _ => trivial) (bL_isStrict d _ _ _ _ _ ?_), rfl, rfl⟩
      exact ⟨[hz_i a1], 0, [.inl (.int 0), .inr (20, 0)], rfl, rfl, by decide, _, _, m, hq_bt rfl ⟨0, by decide, rfl, rfl, rfl⟩⟩
    · refine ⟨0, hq_sl h1 20 0 0 1, hq_introK (ls := [some (.inr (3, 0)), some (hz_i a1), some (.inr (20, 0)), none]) (by decide +kernel) rfl (fun _ => Nat.le_of_ble_eq_true rfl) (fun _ => trivial) (bL_isStrict d _ _ _ _ _ ?_), rfl, rfl⟩
      exact ⟨[hz_i a1], 0, [.inl (.int 0), .inr (20, 0)], rfl, rfl, by decide, _, _, m, hq_bf hz_one0 ⟨0, by decide, rfl, rfl, rfl⟩⟩
  | .inr E, m, ok =>
    rcases ok with rfl | rfl
    · refine ⟨1, h1, hq_introK (ls := [some (.inr (3, 0)), some (hz_i a1), some (.inr (20, 0)), none]) (by decide +kernel) rfl (fun _ => Nat.le_of_ble_eq_true rfl) (fun _ => trivial) (bL_isStrict d _ _ _ _ _ ?_), (if_pos rfl).symm, rfl⟩
      exact ⟨[hz_i a1], 0, [.inl (.int 0), .inr (20, 0)], rfl, rfl, by decide, _, _, m, Or.inl ⟨rfl, fun q => ⟨rfl, rfl⟩⟩⟩
    · refine ⟨1, h1, hq_introK (ls := [some (.inr (3, 0)), some (hz_i a1), some (.inr (20, 0)), none]) (by decide +kernel) rfl (fun _ => Nat.le_of_ble_eq_true rfl) (fun _ => trivial) (bL_isStrict d _ _ _ _ _ ?_), (if_pos rfl).symm, rfl⟩
      exact ⟨[hz_i a1], 0, [.inl (.int 0), .inr (20, 0)], rfl, rfl, by decide, _, _, m, Or.inl ⟨rfl, fun q => ⟨rfl, rfl⟩⟩⟩
abbrev ML_waivedFor : hq_M := (yL_waivedFor, cL_waivedFor, 4, (some .int))
def hhL_waivedFor : hq_HH := [(0, 9, 12, 21)]
theorem mdL_waivedFor : hq_mk ML_waivedFor hhL_waivedFor 3 := ⟨⟨by decide +kernel, by decide +kernel, by decide +kernel⟩, hq_m4 172 rfl rfl, hq_m1 0 rfl rfl, by decide, by decide +kernel, hq_m4 171 rfl rfl⟩
theorem wLM_66 : Cond.methodLink RL 66 yX6_waivedFor ∈ hq_ws := hq_m4 173 rfl rfl
theorem catL_waivedFor_0 : hq_cat ML_waivedFor hhL_waivedFor 4 hz_IOB 12 := ⟨[], ⟨0, 9, 12, 21⟩, [], hz_IOB, rfl, fun z hz => absurd hz List.not_mem_nil, by decide, by decide, rfl, wLC_21, List.mem_of_getElem? (i := 8) rfl⟩
theorem bL_waivedFor (d : Nat) (res : hq_R) (hr : hq_H) : hq_S (hq_Gk ML_waivedFor hhL_waivedFor res hr 0) ML_waivedFor d 0 (hk_aload 2 (hk_iconst 0 (hk_aload 0 (hk_iload 1 (hk_tc 1 3 d MX6_waivedFor hz_IOB hz_IOB (hk_i2l (hk_last 20 1 (hk_goto (hk_iconst 0 (hk_iret res hr))))) (hk_astoreX 3 (hk_iconst 1 (hk_iret res hr))) (hk_astoreX 3 (hk_iconst 1 (hk_iret res hr)))))))) := (hs_aload_n dL_waivedFor_0 rfl (hs_iconst dL_waivedFor_1 (by decide) (hs_aload_n dL_waivedFor_2 rfl (hs_iload_n dL_waivedFor_3 rfl (hs_tc (ci := 6) (N := 9) (T := TX6) dL_waivedFor_4 mdX6_waivedFor wLM_66 rfl rfl catL_waivedFor_0 catL_waivedFor_0 (hs_i2l dL_waivedFor_7 (hs_last dL_waivedFor_8 rfl (by decide) (hs_goto dL_waivedFor_9 (by decide) (hs_iconst dL_waivedFor_15 (by decide) (hs_iretK (by decide) dL_waivedFor_16 rfl))))) (hs_astoreX_n dL_waivedFor_12 rfl (Nat.le_of_ble_eq_true rfl) (hs_iconst dL_waivedFor_13 (by decide) (hs_iretK (by decide) dL_waivedFor_14 rfl))) (hs_astoreX_n dL_waivedFor_12 rfl (Nat.le_of_ble_eq_true rfl) (hs_iconst dL_waivedFor_13 (by decide) (hs_iretK (by decide) dL_waivedFor_14 rfl))))))))
theorem hL_waivedFor (d : Nat) (a1 : Int32) (h h1 : hq_H) (res : hq_R) (m : hq_Met d MX6_waivedFor [.inr (3, 0), hz_i a1] h res h1) (ok : hz_thr hz_IOB hz_IOB res) : ∃ (k : Int32) (hr : hq_H), hq_MetK (d + 1) ML_waivedFor hhL_waivedFor [.inr (3, 0), hz_i a1, .inr (20, 0)] h (hz_o k) hr ∧ hz_hout hz_IOB res k h1 hr := by
  match res, m, ok with
  | .inl (some (.inl (.int x))), m, ok =>
    refine ⟨0, hq_sl h1 20 0 0 x.toInt64, hq_introK (ls := [some (.inr (3, 0)), some (hz_i a1), some (.inr (20, 0)), none]) (by decide +kernel) rfl (fun _ => Nat.le_of_ble_eq_true rfl) (fun _ => trivial) (bL_waivedFor d _ _ _ _ _ ?_), rfl, rfl⟩
    exact ⟨[hz_i a1], 0, [.inl (.int 0), .inr (20, 0)], rfl, rfl, by decide, _, _, m, ⟨0, by decide, rfl, rfl, rfl⟩⟩
  | .inr E, m, ok =>
    rcases ok with rfl | rfl
    · refine ⟨1, h1, hq_introK (ls := [some (.inr (3, 0)), some (hz_i a1), some (.inr (20, 0)), none]) (by decide +kernel) rfl (fun _ => Nat.le_of_ble_eq_true rfl) (fun _ => trivial) (bL_waivedFor d _ _ _ _ _ ?_), (if_pos rfl).symm, rfl⟩
      exact ⟨[hz_i a1], 0, [.inl (.int 0), .inr (20, 0)], rfl, rfl, by decide, _, _, m, Or.inl ⟨rfl, fun q => ⟨rfl, rfl⟩⟩⟩
    · refine ⟨1, h1, hq_introK (ls := [some (.inr (3, 0)), some (hz_i a1), some (.inr (20, 0)), none]) (by decide +kernel) rfl (fun _ => Nat.le_of_ble_eq_true rfl) (fun _ => trivial) (bL_waivedFor d _ _ _ _ _ ?_), (if_pos rfl).symm, rfl⟩
      exact ⟨[hz_i a1], 0, [.inl (.int 0), .inr (20, 0)], rfl, rfl, by decide, _, _, m, Or.inl ⟨rfl, fun q => ⟨rfl, rfl⟩⟩⟩
abbrev ML_holdsIn : hq_M := (yL_holdsIn, cL_holdsIn, 5, (some .int))
def hhL_holdsIn : hq_HH := [(0, 17, 20, 21), (0, 17, 24, 13)]
theorem mdL_holdsIn : hq_mk ML_holdsIn hhL_holdsIn 4 := ⟨⟨by decide +kernel, by decide +kernel, by decide +kernel⟩, hq_m4 179 rfl rfl, hq_m1 0 rfl rfl, by decide, by decide +kernel, hq_m4 178 rfl rfl⟩
theorem wLM_69 : Cond.methodLink RL 69 yX6_holdsIn ∈ hq_ws := hq_m4 180 rfl rfl
theorem catL_holdsIn_0 : hq_cat ML_holdsIn hhL_holdsIn 5 hz_IOB 20 := ⟨[], ⟨0, 17, 20, 21⟩, [⟨0, 17, 24, 13⟩], hz_IOB, rfl, fun z hz => absurd hz List.not_mem_nil, by decide, by decide, rfl, wLC_21, List.mem_of_getElem? (i := 8) rfl⟩
theorem catL_holdsIn_1 : hq_cat ML_holdsIn hhL_holdsIn 5 hz_IAE 24 := ⟨[⟨0, 17, 20, 21⟩], ⟨0, 17, 24, 13⟩, [], hz_IAE, rfl, fun z hz => by
  rw [List.mem_singleton.mp hz]
  exact ⟨by decide, hz_IOB, wLC_21, by decide +kernel⟩, by decide, by decide, rfl, wLC_13, List.mem_of_getElem? (i := 0) rfl⟩
theorem bL_holdsIn (d : Nat) (res : hq_R) (hr : hq_H) : hq_S (hq_Gk ML_holdsIn hhL_holdsIn res hr 0) ML_holdsIn d 0 (hk_aload 3 (hk_iconst 0 (hk_aload 0 (hk_iload 1 (hk_iload 2 (hk_tc 2 3 d MX6_holdsIn hz_IOB hz_IAE (hk_if_eq (hk_lconst 0 (hk_last 20 1 (hk_goto (hk_iconst 0 (hk_iret res hr))))) (hk_lconst 1 (hk_goto (hk_last 20 1 (hk_goto (hk_iconst 0 (hk_iret res hr))))))) (hk_astoreX 4 (hk_iconst 1 (hk_iret res hr))) (hk_astoreX 4 (hk_iconst 2 (hk_iret res hr))))))))) := (hs_aload_n dL_holdsIn_0 rfl (hs_iconst dL_holdsIn_1 (by decide) (hs_aload_n dL_holdsIn_2 rfl (hs_iload_n dL_holdsIn_3 rfl (hs_iload_n dL_holdsIn_4 rfl (hs_tc (ci := 6) (N := 9) (T := TX6) dL_holdsIn_5 mdX6_holdsIn wLM_69 rfl rfl catL_holdsIn_0 catL_holdsIn_1 (hs_if_eq dL_holdsIn_8 (by decide) (hs_lconst dL_holdsIn_15 (by decide) (hs_last dL_holdsIn_16 rfl (by decide) (hs_goto dL_holdsIn_17 (by decide) (hs_iconst dL_holdsIn_28 (by decide) (hs_iretK (by decide) dL_holdsIn_29 rfl))))) (hs_lconst dL_holdsIn_11 (by decide) (hs_goto dL_holdsIn_12 (by decide) (hs_last dL_holdsIn_16 rfl (by decide) (hs_goto dL_holdsIn_17 (by decide) (hs_iconst dL_holdsIn_28 (by decide) (hs_iretK (by decide) dL_holdsIn_29 rfl))))))) (hs_astoreX dL_holdsIn_20 (Nat.le_of_ble_eq_true rfl) (hs_iconst dL_holdsIn_22 (by decide) (hs_iretK (by decide) dL_holdsIn_23 rfl))) (hs_astoreX dL_holdsIn_24 (Nat.le_of_ble_eq_true rfl) (hs_iconst dL_holdsIn_26 (by decide) (hs_iretK (by decide) dL_holdsIn_27 rfl)))))))))
theorem hL_holdsIn (d : Nat) (a1 : Int32) (a2 : Int32) (h h1 : hq_H) (res : hq_R) (m : hq_Met d MX6_holdsIn [.inr (3, 0), hz_i a1, hz_i a2] h res h1) (ok : hz_thrZ hz_IOB hz_IAE res) : ∃ (k : Int32) (hr : hq_H), hq_MetK (d + 1) ML_holdsIn hhL_holdsIn [.inr (3, 0), hz_i a1, hz_i a2, .inr (20, 0)] h (hz_o k) hr ∧ hz_hout hz_IOB res k h1 hr := by
  match res, m, ok with
  | .inl (some (.inl (.int x))), m, ok =>
    rcases ok with rfl | rfl
    · refine ⟨0, hq_sl h1 20 0 0 0, hq_introK (ls := [some (.inr (3, 0)), some (hz_i a1), some (hz_i a2), some (.inr (20, 0)), none]) (by decide +kernel) rfl (fun _ => Nat.le_of_ble_eq_true rfl) (fun _ => trivial) (bL_holdsIn d _ _ _ _ _ ?_), rfl, rfl⟩
      exact ⟨[hz_i a1, hz_i a2], 0, [.inl (.int 0), .inr (20, 0)], rfl, rfl, by decide, _, _, m, hq_bt rfl ⟨0, by decide, rfl, rfl, rfl⟩⟩
    · refine ⟨0, hq_sl h1 20 0 0 1, hq_introK (ls := [some (.inr (3, 0)), some (hz_i a1), some (hz_i a2), some (.inr (20, 0)), none]) (by decide +kernel) rfl (fun _ => Nat.le_of_ble_eq_true rfl) (fun _ => trivial) (bL_holdsIn d _ _ _ _ _ ?_), rfl, rfl⟩
      exact ⟨[hz_i a1, hz_i a2], 0, [.inl (.int 0), .inr (20, 0)], rfl, rfl, by decide, _, _, m, hq_bf hz_one0 ⟨0, by decide, rfl, rfl, rfl⟩⟩
  | .inr E, m, ok =>
    rcases ok with rfl | rfl
    · refine ⟨1, h1, hq_introK (ls := [some (.inr (3, 0)), some (hz_i a1), some (hz_i a2), some (.inr (20, 0)), none]) (by decide +kernel) rfl (fun _ => Nat.le_of_ble_eq_true rfl) (fun _ => trivial) (bL_holdsIn d _ _ _ _ _ ?_), (if_pos rfl).symm, rfl⟩
      exact ⟨[hz_i a1, hz_i a2], 0, [.inl (.int 0), .inr (20, 0)], rfl, rfl, by decide, _, _, m, Or.inl ⟨rfl, fun q => ⟨rfl, rfl⟩⟩⟩
    · refine ⟨2, h1, hq_introK (ls := [some (.inr (3, 0)), some (hz_i a1), some (hz_i a2), some (.inr (20, 0)), none]) (by decide +kernel) rfl (fun _ => Nat.le_of_ble_eq_true rfl) (fun _ => trivial) (bL_holdsIn d _ _ _ _ _ ?_), (if_neg (by decide)).symm, rfl⟩
      exact ⟨[hz_i a1, hz_i a2], 0, [.inl (.int 0), .inr (20, 0)], rfl, rfl, by decide, _, _, m, Or.inr ⟨rfl, fun q => ⟨rfl, rfl⟩⟩⟩
abbrev ML_refusedBy : hq_M := (yL_refusedBy, cL_refusedBy, 4, (some .int))
def hhL_refusedBy : hq_HH := [(0, 9, 12, 21)]
theorem mdL_refusedBy : hq_mk ML_refusedBy hhL_refusedBy 3 := ⟨⟨by decide +kernel, by decide +kernel, by decide +kernel⟩, hq_m4 188 rfl rfl, hq_m1 0 rfl rfl, by decide, by decide +kernel, hq_m4 187 rfl rfl⟩
theorem wLM_73 : Cond.methodLink RL 73 yX6_refusedBy ∈ hq_ws := hq_m4 189 rfl rfl
theorem catL_refusedBy_0 : hq_cat ML_refusedBy hhL_refusedBy 4 hz_IOB 12 := ⟨[], ⟨0, 9, 12, 21⟩, [], hz_IOB, rfl, fun z hz => absurd hz List.not_mem_nil, by decide, by decide, rfl, wLC_21, List.mem_of_getElem? (i := 8) rfl⟩
theorem bL_refusedBy (d : Nat) (res : hq_R) (hr : hq_H) : hq_S (hq_Gk ML_refusedBy hhL_refusedBy res hr 0) ML_refusedBy d 0 (hk_aload 2 (hk_iconst 0 (hk_aload 0 (hk_iload 1 (hk_tc 1 3 d MX6_refusedBy hz_IOB hz_IOB (hk_i2l (hk_last 20 1 (hk_goto (hk_iconst 0 (hk_iret res hr))))) (hk_astoreX 3 (hk_iconst 1 (hk_iret res hr))) (hk_astoreX 3 (hk_iconst 1 (hk_iret res hr)))))))) := (hs_aload_n dL_refusedBy_0 rfl (hs_iconst dL_refusedBy_1 (by decide) (hs_aload_n dL_refusedBy_2 rfl (hs_iload_n dL_refusedBy_3 rfl (hs_tc (ci := 6) (N := 9) (T := TX6) dL_refusedBy_4 mdX6_refusedBy wLM_73 rfl rfl catL_refusedBy_0 catL_refusedBy_0 (hs_i2l dL_refusedBy_7 (hs_last dL_refusedBy_8 rfl (by decide) (hs_goto dL_refusedBy_9 (by decide) (hs_iconst dL_refusedBy_15 (by decide) (hs_iretK (by decide) dL_refusedBy_16 rfl))))) (hs_astoreX_n dL_refusedBy_12 rfl (Nat.le_of_ble_eq_true rfl) (hs_iconst dL_refusedBy_13 (by decide) (hs_iretK (by decide) dL_refusedBy_14 rfl))) (hs_astoreX_n dL_refusedBy_12 rfl (Nat.le_of_ble_eq_true rfl) (hs_iconst dL_refusedBy_13 (by decide) (hs_iretK (by decide) dL_refusedBy_14 rfl))))))))
theorem hL_refusedBy (d : Nat) (a1 : Int32) (h h1 : hq_H) (res : hq_R) (m : hq_Met d MX6_refusedBy [.inr (3, 0), hz_i a1] h res h1) (ok : hz_thr hz_IOB hz_IOB res) : ∃ (k : Int32) (hr : hq_H), hq_MetK (d + 1) ML_refusedBy hhL_refusedBy [.inr (3, 0), hz_i a1, .inr (20, 0)] h (hz_o k) hr ∧ hz_hout hz_IOB res k h1 hr := by
  match res, m, ok with
  | .inl (some (.inl (.int x))), m, ok =>
    refine ⟨0, hq_sl h1 20 0 0 x.toInt64, hq_introK (ls := [some (.inr (3, 0)), some (hz_i a1), some (.inr (20, 0)), none]) (by decide +kernel) rfl (fun _ => Nat.le_of_ble_eq_true rfl) (fun _ => trivial) (bL_refusedBy d _ _ _ _ _ ?_), rfl, rfl⟩
    exact ⟨[hz_i a1], 0, [.inl (.int 0), .inr (20, 0)], rfl, rfl, by decide, _, _, m, ⟨0, by decide, rfl, rfl, rfl⟩⟩
  | .inr E, m, ok =>
    rcases ok with rfl | rfl
    · refine ⟨1, h1, hq_introK (ls := [some (.inr (3, 0)), some (hz_i a1), some (.inr (20, 0)), none]) (by decide +kernel) rfl (fun _ => Nat.le_of_ble_eq_true rfl) (fun _ => trivial) (bL_refusedBy d _ _ _ _ _ ?_), (if_pos rfl).symm, rfl⟩
      exact ⟨[hz_i a1], 0, [.inl (.int 0), .inr (20, 0)], rfl, rfl, by decide, _, _, m, Or.inl ⟨rfl, fun q => ⟨rfl, rfl⟩⟩⟩
    · refine ⟨1, h1, hq_introK (ls := [some (.inr (3, 0)), some (hz_i a1), some (.inr (20, 0)), none]) (by decide +kernel) rfl (fun _ => Nat.le_of_ble_eq_true rfl) (fun _ => trivial) (bL_refusedBy d _ _ _ _ _ ?_), (if_pos rfl).symm, rfl⟩
      exact ⟨[hz_i a1], 0, [.inl (.int 0), .inr (20, 0)], rfl, rfl, by decide, _, _, m, Or.inl ⟨rfl, fun q => ⟨rfl, rfl⟩⟩⟩
abbrev ML_finesOf : hq_M := (yL_finesOf, cL_finesOf, 4, (some .int))
def hhL_finesOf : hq_HH := [(0, 9, 12, 21)]
theorem mdL_finesOf : hq_mk ML_finesOf hhL_finesOf 3 := ⟨⟨by decide +kernel, by decide +kernel, by decide +kernel⟩, hq_m4 195 rfl rfl, hq_m1 0 rfl rfl, by decide, by decide +kernel, hq_m4 194 rfl rfl⟩
theorem wLM_76 : Cond.methodLink RL 76 yX6_finesOf ∈ hq_ws := hq_m4 196 rfl rfl
theorem catL_finesOf_0 : hq_cat ML_finesOf hhL_finesOf 4 hz_IOB 12 := ⟨[], ⟨0, 9, 12, 21⟩, [], hz_IOB, rfl, fun z hz => absurd hz List.not_mem_nil, by decide, by decide, rfl, wLC_21, List.mem_of_getElem? (i := 8) rfl⟩
theorem bL_finesOf (d : Nat) (res : hq_R) (hr : hq_H) : hq_S (hq_Gk ML_finesOf hhL_finesOf res hr 0) ML_finesOf d 0 (hk_aload 2 (hk_iconst 0 (hk_aload 0 (hk_iload 1 (hk_tc 1 3 d MX6_finesOf hz_IOB hz_IOB (hk_i2l (hk_last 20 1 (hk_goto (hk_iconst 0 (hk_iret res hr))))) (hk_astoreX 3 (hk_iconst 1 (hk_iret res hr))) (hk_astoreX 3 (hk_iconst 1 (hk_iret res hr)))))))) := (hs_aload_n dL_finesOf_0 rfl (hs_iconst dL_finesOf_1 (by decide) (hs_aload_n dL_finesOf_2 rfl (hs_iload_n dL_finesOf_3 rfl (hs_tc (ci := 6) (N := 9) (T := TX6) dL_finesOf_4 mdX6_finesOf wLM_76 rfl rfl catL_finesOf_0 catL_finesOf_0 (hs_i2l dL_finesOf_7 (hs_last dL_finesOf_8 rfl (by decide) (hs_goto dL_finesOf_9 (by decide) (hs_iconst dL_finesOf_15 (by decide) (hs_iretK (by decide) dL_finesOf_16 rfl))))) (hs_astoreX_n dL_finesOf_12 rfl (Nat.le_of_ble_eq_true rfl) (hs_iconst dL_finesOf_13 (by decide) (hs_iretK (by decide) dL_finesOf_14 rfl))) (hs_astoreX_n dL_finesOf_12 rfl (Nat.le_of_ble_eq_true rfl) (hs_iconst dL_finesOf_13 (by decide) (hs_iretK (by decide) dL_finesOf_14 rfl))))))))
theorem hL_finesOf (d : Nat) (a1 : Int32) (h h1 : hq_H) (res : hq_R) (m : hq_Met d MX6_finesOf [.inr (3, 0), hz_i a1] h res h1) (ok : hz_thr hz_IOB hz_IOB res) : ∃ (k : Int32) (hr : hq_H), hq_MetK (d + 1) ML_finesOf hhL_finesOf [.inr (3, 0), hz_i a1, .inr (20, 0)] h (hz_o k) hr ∧ hz_hout hz_IOB res k h1 hr := by
  match res, m, ok with
  | .inl (some (.inl (.int x))), m, ok =>
    refine ⟨0, hq_sl h1 20 0 0 x.toInt64, hq_introK (ls := [some (.inr (3, 0)), some (hz_i a1), some (.inr (20, 0)), none]) (by decide +kernel) rfl (fun _ => Nat.le_of_ble_eq_true rfl) (fun _ => trivial) (bL_finesOf d _ _ _ _ _ ?_), rfl, rfl⟩
    exact ⟨[hz_i a1], 0, [.inl (.int 0), .inr (20, 0)], rfl, rfl, by decide, _, _, m, ⟨0, by decide, rfl, rfl, rfl⟩⟩
  | .inr E, m, ok =>
    rcases ok with rfl | rfl
    · refine ⟨1, h1, hq_introK (ls := [some (.inr (3, 0)), some (hz_i a1), some (.inr (20, 0)), none]) (by decide +kernel) rfl (fun _ => Nat.le_of_ble_eq_true rfl) (fun _ => trivial) (bL_finesOf d _ _ _ _ _ ?_), (if_pos rfl).symm, rfl⟩
      exact ⟨[hz_i a1], 0, [.inl (.int 0), .inr (20, 0)], rfl, rfl, by decide, _, _, m, Or.inl ⟨rfl, fun q => ⟨rfl, rfl⟩⟩⟩
    · refine ⟨1, h1, hq_introK (ls := [some (.inr (3, 0)), some (hz_i a1), some (.inr (20, 0)), none]) (by decide +kernel) rfl (fun _ => Nat.le_of_ble_eq_true rfl) (fun _ => trivial) (bL_finesOf d _ _ _ _ _ ?_), (if_pos rfl).symm, rfl⟩
      exact ⟨[hz_i a1], 0, [.inl (.int 0), .inr (20, 0)], rfl, rfl, by decide, _, _, m, Or.inl ⟨rfl, fun q => ⟨rfl, rfl⟩⟩⟩
abbrev ML_canStand : hq_M := (yL_canStand, cL_canStand, 4, (some .int))
def hhL_canStand : hq_HH := [(0, 16, 19, 13)]
theorem mdL_canStand : hq_mk ML_canStand hhL_canStand 3 := ⟨⟨by decide +kernel, by decide +kernel, by decide +kernel⟩, hq_m4 202 rfl rfl, hq_m1 0 rfl rfl, by decide, by decide +kernel, hq_m4 201 rfl rfl⟩
theorem wLM_79 : Cond.methodLink RL 79 yX6_canStand ∈ hq_ws := hq_m4 203 rfl rfl
theorem catL_canStand_0 : hq_cat ML_canStand hhL_canStand 4 hz_IAE 19 := ⟨[], ⟨0, 16, 19, 13⟩, [], hz_IAE, rfl, fun z hz => absurd hz List.not_mem_nil, by decide, by decide, rfl, wLC_13, List.mem_of_getElem? (i := 0) rfl⟩
theorem bL_canStand (d : Nat) (res : hq_R) (hr : hq_H) : hq_S (hq_Gk ML_canStand hhL_canStand res hr 0) ML_canStand d 0 (hk_aload 2 (hk_iconst 0 (hk_aload 0 (hk_iload 1 (hk_tc 1 3 d MX6_canStand hz_IAE hz_IAE (hk_if_eq (hk_lconst 0 (hk_last 20 1 (hk_goto (hk_iconst 0 (hk_iret res hr))))) (hk_lconst 1 (hk_goto (hk_last 20 1 (hk_goto (hk_iconst 0 (hk_iret res hr))))))) (hk_astoreX 3 (hk_iconst 1 (hk_iret res hr))) (hk_astoreX 3 (hk_iconst 1 (hk_iret res hr)))))))) := (hs_aload_n dL_canStand_0 rfl (hs_iconst dL_canStand_1 (by decide) (hs_aload_n dL_canStand_2 rfl (hs_iload_n dL_canStand_3 rfl (hs_tc (ci := 6) (N := 9) (T := TX6) dL_canStand_4 mdX6_canStand wLM_79 rfl rfl catL_canStand_0 catL_canStand_0 (hs_if_eq dL_canStand_7 (by decide) (hs_lconst dL_canStand_14 (by decide) (hs_last dL_canStand_15 rfl (by decide) (hs_goto dL_canStand_16 (by decide) (hs_iconst dL_canStand_22 (by decide) (hs_iretK (by decide) dL_canStand_23 rfl))))) (hs_lconst dL_canStand_10 (by decide) (hs_goto dL_canStand_11 (by decide) (hs_last dL_canStand_15 rfl (by decide) (hs_goto dL_canStand_16 (by decide) (hs_iconst dL_canStand_22 (by decide) (hs_iretK (by decide) dL_canStand_23 rfl))))))) (hs_astoreX_n dL_canStand_19 rfl (Nat.le_of_ble_eq_true rfl) (hs_iconst dL_canStand_20 (by decide) (hs_iretK (by decide) dL_canStand_21 rfl))) (hs_astoreX_n dL_canStand_19 rfl (Nat.le_of_ble_eq_true rfl) (hs_iconst dL_canStand_20 (by decide) (hs_iretK (by decide) dL_canStand_21 rfl))))))))
theorem hL_canStand (d : Nat) (a1 : Int32) (h h1 : hq_H) (res : hq_R) (m : hq_Met d MX6_canStand [.inr (3, 0), hz_i a1] h res h1) (ok : hz_thrZ hz_IAE hz_IAE res) : ∃ (k : Int32) (hr : hq_H), hq_MetK (d + 1) ML_canStand hhL_canStand [.inr (3, 0), hz_i a1, .inr (20, 0)] h (hz_o k) hr ∧ hz_hout hz_IAE res k h1 hr := by
  match res, m, ok with
  | .inl (some (.inl (.int x))), m, ok =>
    rcases ok with rfl | rfl
    · refine ⟨0, hq_sl h1 20 0 0 0, hq_introK (ls := [some (.inr (3, 0)), some (hz_i a1), some (.inr (20, 0)), none]) (by decide +kernel) rfl (fun _ => Nat.le_of_ble_eq_true rfl) (fun _ => trivial) (bL_canStand d _ _ _ _ _ ?_), rfl, rfl⟩
      exact ⟨[hz_i a1], 0, [.inl (.int 0), .inr (20, 0)], rfl, rfl, by decide, _, _, m, hq_bt rfl ⟨0, by decide, rfl, rfl, rfl⟩⟩
    · refine ⟨0, hq_sl h1 20 0 0 1, hq_introK (ls := [some (.inr (3, 0)), some (hz_i a1), some (.inr (20, 0)), none]) (by decide +kernel) rfl (fun _ => Nat.le_of_ble_eq_true rfl) (fun _ => trivial) (bL_canStand d _ _ _ _ _ ?_), rfl, rfl⟩
      exact ⟨[hz_i a1], 0, [.inl (.int 0), .inr (20, 0)], rfl, rfl, by decide, _, _, m, hq_bf hz_one0 ⟨0, by decide, rfl, rfl, rfl⟩⟩
  | .inr E, m, ok =>
    rcases ok with rfl | rfl
    · refine ⟨1, h1, hq_introK (ls := [some (.inr (3, 0)), some (hz_i a1), some (.inr (20, 0)), none]) (by decide +kernel) rfl (fun _ => Nat.le_of_ble_eq_true rfl) (fun _ => trivial) (bL_canStand d _ _ _ _ _ ?_), (if_pos rfl).symm, rfl⟩
      exact ⟨[hz_i a1], 0, [.inl (.int 0), .inr (20, 0)], rfl, rfl, by decide, _, _, m, Or.inl ⟨rfl, fun q => ⟨rfl, rfl⟩⟩⟩
    · refine ⟨1, h1, hq_introK (ls := [some (.inr (3, 0)), some (hz_i a1), some (.inr (20, 0)), none]) (by decide +kernel) rfl (fun _ => Nat.le_of_ble_eq_true rfl) (fun _ => trivial) (bL_canStand d _ _ _ _ _ ?_), (if_pos rfl).symm, rfl⟩
      exact ⟨[hz_i a1], 0, [.inl (.int 0), .inr (20, 0)], rfl, rfl, by decide, _, _, m, Or.inl ⟨rfl, fun q => ⟨rfl, rfl⟩⟩⟩
abbrev ML_canStandBySplitting : hq_M := (yL_canStandBySplitting, cL_canStandBySplitting, 4, (some .int))
def hhL_canStandBySplitting : hq_HH := [(0, 16, 19, 13)]
theorem mdL_canStandBySplitting : hq_mk ML_canStandBySplitting hhL_canStandBySplitting 3 := ⟨⟨by decide +kernel, by decide +kernel, by decide +kernel⟩, hq_m4 214 rfl rfl, hq_m1 0 rfl rfl, by decide, by decide +kernel, hq_m4 213 rfl rfl⟩
theorem wLM_82 : Cond.methodLink RL 82 yX6_canStandBySplitting ∈ hq_ws := hq_m4 215 rfl rfl
theorem catL_canStandBySplitting_0 : hq_cat ML_canStandBySplitting hhL_canStandBySplitting 4 hz_IAE 19 := ⟨[], ⟨0, 16, 19, 13⟩, [], hz_IAE, rfl, fun z hz => absurd hz List.not_mem_nil, by decide, by decide, rfl, wLC_13, List.mem_of_getElem? (i := 0) rfl⟩
theorem bL_canStandBySplitting (d : Nat) (res : hq_R) (hr : hq_H) : hq_S (hq_Gk ML_canStandBySplitting hhL_canStandBySplitting res hr 0) ML_canStandBySplitting d 0 (hk_aload 2 (hk_iconst 0 (hk_aload 0 (hk_iload 1 (hk_tc 1 3 d MX6_canStandBySplitting hz_IAE hz_IAE (hk_if_eq (hk_lconst 0 (hk_last 20 1 (hk_goto (hk_iconst 0 (hk_iret res hr))))) (hk_lconst 1 (hk_goto (hk_last 20 1 (hk_goto (hk_iconst 0 (hk_iret res hr))))))) (hk_astoreX 3 (hk_iconst 1 (hk_iret res hr))) (hk_astoreX 3 (hk_iconst 1 (hk_iret res hr)))))))) := (hs_aload_n dL_canStandBySplitting_0 rfl (hs_iconst dL_canStandBySplitting_1 (by decide) (hs_aload_n dL_canStandBySplitting_2 rfl (hs_iload_n dL_canStandBySplitting_3 rfl (hs_tc (ci := 6) (N := 9) (T := TX6) dL_canStandBySplitting_4 mdX6_canStandBySplitting wLM_82 rfl rfl catL_canStandBySplitting_0 catL_canStandBySplitting_0 (hs_if_eq dL_canStandBySplitting_7 (by decide) (hs_lconst dL_canStandBySplitting_14 (by decide) (hs_last dL_canStandBySplitting_15 rfl (by decide) (hs_goto dL_canStandBySplitting_16 (by decide) (hs_iconst dL_canStandBySplitting_22 (by decide) (hs_iretK (by decide) dL_canStandBySplitting_23 rfl))))) (hs_lconst dL_canStandBySplitting_10 (by decide) (hs_goto dL_canStandBySplitting_11 (by decide) (hs_last dL_canStandBySplitting_15 rfl (by decide) (hs_goto dL_canStandBySplitting_16 (by decide) (hs_iconst dL_canStandBySplitting_22 (by decide) (hs_iretK (by decide) dL_canStandBySplitting_23 rfl))))))) (hs_astoreX_n dL_canStandBySplitting_19 rfl (Nat.le_of_ble_eq_true rfl) (hs_iconst dL_canStandBySplitting_20 (by decide) (hs_iretK (by decide) dL_canStandBySplitting_21 rfl))) (hs_astoreX_n dL_canStandBySplitting_19 rfl (Nat.le_of_ble_eq_true rfl) (hs_iconst dL_canStandBySplitting_20 (by decide) (hs_iretK (by decide) dL_canStandBySplitting_21 rfl))))))))
theorem hL_canStandBySplitting (d : Nat) (a1 : Int32) (h h1 : hq_H) (res : hq_R) (m : hq_Met d MX6_canStandBySplitting [.inr (3, 0), hz_i a1] h res h1) (ok : hz_thrZ hz_IAE hz_IAE res) : ∃ (k : Int32) (hr : hq_H), hq_MetK (d + 1) ML_canStandBySplitting hhL_canStandBySplitting [.inr (3, 0), hz_i a1, .inr (20, 0)] h (hz_o k) hr ∧ hz_hout hz_IAE res k h1 hr := by
  match res, m, ok with
  | .inl (some (.inl (.int x))), m, ok =>
    rcases ok with rfl | rfl
    · refine ⟨0, hq_sl h1 20 0 0 0, hq_introK (ls := [some (.inr (3, 0)), some (hz_i a1), some (.inr (20, 0)), none]) (by decide +kernel) rfl (fun _ => Nat.le_of_ble_eq_true rfl) (fun _ => trivial) (bL_canStandBySplitting d _ _ _ _ _ ?_), rfl, rfl⟩
      exact ⟨[hz_i a1], 0, [.inl (.int 0), .inr (20, 0)], rfl, rfl, by decide, _, _, m, hq_bt rfl ⟨0, by decide, rfl, rfl, rfl⟩⟩
    · refine ⟨0, hq_sl h1 20 0 0 1, hq_introK (ls := [some (.inr (3, 0)), some (hz_i a1), some (.inr (20, 0)), none]) (by decide +kernel) rfl (fun _ => Nat.le_of_ble_eq_true rfl) (fun _ => trivial) (bL_canStandBySplitting d _ _ _ _ _ ?_), rfl, rfl⟩
      exact ⟨[hz_i a1], 0, [.inl (.int 0), .inr (20, 0)], rfl, rfl, by decide, _, _, m, hq_bf hz_one0 ⟨0, by decide, rfl, rfl, rfl⟩⟩
  | .inr E, m, ok =>
    rcases ok with rfl | rfl
    · refine ⟨1, h1, hq_introK (ls := [some (.inr (3, 0)), some (hz_i a1), some (.inr (20, 0)), none]) (by decide +kernel) rfl (fun _ => Nat.le_of_ble_eq_true rfl) (fun _ => trivial) (bL_canStandBySplitting d _ _ _ _ _ ?_), (if_pos rfl).symm, rfl⟩
      exact ⟨[hz_i a1], 0, [.inl (.int 0), .inr (20, 0)], rfl, rfl, by decide, _, _, m, Or.inl ⟨rfl, fun q => ⟨rfl, rfl⟩⟩⟩
    · refine ⟨1, h1, hq_introK (ls := [some (.inr (3, 0)), some (hz_i a1), some (.inr (20, 0)), none]) (by decide +kernel) rfl (fun _ => Nat.le_of_ble_eq_true rfl) (fun _ => trivial) (bL_canStandBySplitting d _ _ _ _ _ ?_), (if_pos rfl).symm, rfl⟩
      exact ⟨[hz_i a1], 0, [.inl (.int 0), .inr (20, 0)], rfl, rfl, by decide, _, _, m, Or.inl ⟨rfl, fun q => ⟨rfl, rfl⟩⟩⟩
abbrev ML_canStandByJoining : hq_M := (yL_canStandByJoining, cL_canStandByJoining, 4, (some .int))
def hhL_canStandByJoining : hq_HH := [(0, 16, 19, 13)]
theorem mdL_canStandByJoining : hq_mk ML_canStandByJoining hhL_canStandByJoining 3 := ⟨⟨by decide +kernel, by decide +kernel, by decide +kernel⟩, hq_m4 221 rfl rfl, hq_m1 0 rfl rfl, by decide, by decide +kernel, hq_m4 220 rfl rfl⟩
theorem wLM_85 : Cond.methodLink RL 85 yX6_canStandByJoining ∈ hq_ws := hq_m4 222 rfl rfl
theorem catL_canStandByJoining_0 : hq_cat ML_canStandByJoining hhL_canStandByJoining 4 hz_IAE 19 := ⟨[], ⟨0, 16, 19, 13⟩, [], hz_IAE, rfl, fun z hz => absurd hz List.not_mem_nil, by decide, by decide, rfl, wLC_13, List.mem_of_getElem? (i := 0) rfl⟩
theorem bL_canStandByJoining (d : Nat) (res : hq_R) (hr : hq_H) : hq_S (hq_Gk ML_canStandByJoining hhL_canStandByJoining res hr 0) ML_canStandByJoining d 0 (hk_aload 2 (hk_iconst 0 (hk_aload 0 (hk_iload 1 (hk_tc 1 3 d MX6_canStandByJoining hz_IAE hz_IAE (hk_if_eq (hk_lconst 0 (hk_last 20 1 (hk_goto (hk_iconst 0 (hk_iret res hr))))) (hk_lconst 1 (hk_goto (hk_last 20 1 (hk_goto (hk_iconst 0 (hk_iret res hr))))))) (hk_astoreX 3 (hk_iconst 1 (hk_iret res hr))) (hk_astoreX 3 (hk_iconst 1 (hk_iret res hr)))))))) := (hs_aload_n dL_canStandByJoining_0 rfl (hs_iconst dL_canStandByJoining_1 (by decide) (hs_aload_n dL_canStandByJoining_2 rfl (hs_iload_n dL_canStandByJoining_3 rfl (hs_tc (ci := 6) (N := 9) (T := TX6) dL_canStandByJoining_4 mdX6_canStandByJoining wLM_85 rfl rfl catL_canStandByJoining_0 catL_canStandByJoining_0 (hs_if_eq dL_canStandByJoining_7 (by decide) (hs_lconst dL_canStandByJoining_14 (by decide) (hs_last dL_canStandByJoining_15 rfl (by decide) (hs_goto dL_canStandByJoining_16 (by decide) (hs_iconst dL_canStandByJoining_22 (by decide) (hs_iretK (by decide) dL_canStandByJoining_23 rfl))))) (hs_lconst dL_canStandByJoining_10 (by decide) (hs_goto dL_canStandByJoining_11 (by decide) (hs_last dL_canStandByJoining_15 rfl (by decide) (hs_goto dL_canStandByJoining_16 (by decide) (hs_iconst dL_canStandByJoining_22 (by decide) (hs_iretK (by decide) dL_canStandByJoining_23 rfl))))))) (hs_astoreX_n dL_canStandByJoining_19 rfl (Nat.le_of_ble_eq_true rfl) (hs_iconst dL_canStandByJoining_20 (by decide) (hs_iretK (by decide) dL_canStandByJoining_21 rfl))) (hs_astoreX_n dL_canStandByJoining_19 rfl (Nat.le_of_ble_eq_true rfl) (hs_iconst dL_canStandByJoining_20 (by decide) (hs_iretK (by decide) dL_canStandByJoining_21 rfl))))))))
theorem hL_canStandByJoining (d : Nat) (a1 : Int32) (h h1 : hq_H) (res : hq_R) (m : hq_Met d MX6_canStandByJoining [.inr (3, 0), hz_i a1] h res h1) (ok : hz_thrZ hz_IAE hz_IAE res) : ∃ (k : Int32) (hr : hq_H), hq_MetK (d + 1) ML_canStandByJoining hhL_canStandByJoining [.inr (3, 0), hz_i a1, .inr (20, 0)] h (hz_o k) hr ∧ hz_hout hz_IAE res k h1 hr := by
  match res, m, ok with
  | .inl (some (.inl (.int x))), m, ok =>
    rcases ok with rfl | rfl
    · refine ⟨0, hq_sl h1 20 0 0 0, hq_introK (ls := [some (.inr (3, 0)), some (hz_i a1), some (.inr (20, 0)), none]) (by decide +kernel) rfl (fun _ => Nat.le_of_ble_eq_true rfl) (fun _ => trivial) (bL_canStandByJoining d _ _ _ _ _ ?_), rfl, rfl⟩
      exact ⟨[hz_i a1], 0, [.inl (.int 0), .inr (20, 0)], rfl, rfl, by decide, _, _, m, hq_bt rfl ⟨0, by decide, rfl, rfl, rfl⟩⟩
    · refine ⟨0, hq_sl h1 20 0 0 1, hq_introK (ls := [some (.inr (3, 0)), some (hz_i a1), some (.inr (20, 0)), none]) (by decide +kernel) rfl (fun _ => Nat.le_of_ble_eq_true rfl) (fun _ => trivial) (bL_canStandByJoining d _ _ _ _ _ ?_), rfl, rfl⟩
      exact ⟨[hz_i a1], 0, [.inl (.int 0), .inr (20, 0)], rfl, rfl, by decide, _, _, m, hq_bf hz_one0 ⟨0, by decide, rfl, rfl, rfl⟩⟩
  | .inr E, m, ok =>
    rcases ok with rfl | rfl
    · refine ⟨1, h1, hq_introK (ls := [some (.inr (3, 0)), some (hz_i a1), some (.inr (20, 0)), none]) (by decide +kernel) rfl (fun _ => Nat.le_of_ble_eq_true rfl) (fun _ => trivial) (bL_canStandByJoining d _ _ _ _ _ ?_), (if_pos rfl).symm, rfl⟩
      exact ⟨[hz_i a1], 0, [.inl (.int 0), .inr (20, 0)], rfl, rfl, by decide, _, _, m, Or.inl ⟨rfl, fun q => ⟨rfl, rfl⟩⟩⟩
    · refine ⟨1, h1, hq_introK (ls := [some (.inr (3, 0)), some (hz_i a1), some (.inr (20, 0)), none]) (by decide +kernel) rfl (fun _ => Nat.le_of_ble_eq_true rfl) (fun _ => trivial) (bL_canStandByJoining d _ _ _ _ _ ?_), (if_pos rfl).symm, rfl⟩
      exact ⟨[hz_i a1], 0, [.inl (.int 0), .inr (20, 0)], rfl, rfl, by decide, _, _, m, Or.inl ⟨rfl, fun q => ⟨rfl, rfl⟩⟩⟩
abbrev ML_joined : hq_M := (yL_joined, cL_joined, 4, (some .int))
def hhL_joined : hq_HH := [(0, 9, 12, 13)]
theorem mdL_joined : hq_mk ML_joined hhL_joined 3 := ⟨⟨by decide +kernel, by decide +kernel, by decide +kernel⟩, hq_m4 228 rfl rfl, hq_m1 0 rfl rfl, by decide, by decide +kernel, hq_m4 227 rfl rfl⟩
theorem wLM_88 : Cond.methodLink RL 88 yX6_joined ∈ hq_ws := hq_m4 229 rfl rfl
theorem catL_joined_0 : hq_cat ML_joined hhL_joined 4 hz_IAE 12 := ⟨[], ⟨0, 9, 12, 13⟩, [], hz_IAE, rfl, fun z hz => absurd hz List.not_mem_nil, by decide, by decide, rfl, wLC_13, List.mem_of_getElem? (i := 0) rfl⟩
theorem bL_joined (d : Nat) (res : hq_R) (hr : hq_H) : hq_S (hq_Gk ML_joined hhL_joined res hr 0) ML_joined d 0 (hk_aload 2 (hk_iconst 0 (hk_aload 0 (hk_iload 1 (hk_tc 1 3 d MX6_joined hz_IAE hz_IAE (hk_i2l (hk_last 20 1 (hk_goto (hk_iconst 0 (hk_iret res hr))))) (hk_astoreX 3 (hk_iconst 1 (hk_iret res hr))) (hk_astoreX 3 (hk_iconst 1 (hk_iret res hr)))))))) := (hs_aload_n dL_joined_0 rfl (hs_iconst dL_joined_1 (by decide) (hs_aload_n dL_joined_2 rfl (hs_iload_n dL_joined_3 rfl (hs_tc (ci := 6) (N := 9) (T := TX6) dL_joined_4 mdX6_joined wLM_88 rfl rfl catL_joined_0 catL_joined_0 (hs_i2l dL_joined_7 (hs_last dL_joined_8 rfl (by decide) (hs_goto dL_joined_9 (by decide) (hs_iconst dL_joined_15 (by decide) (hs_iretK (by decide) dL_joined_16 rfl))))) (hs_astoreX_n dL_joined_12 rfl (Nat.le_of_ble_eq_true rfl) (hs_iconst dL_joined_13 (by decide) (hs_iretK (by decide) dL_joined_14 rfl))) (hs_astoreX_n dL_joined_12 rfl (Nat.le_of_ble_eq_true rfl) (hs_iconst dL_joined_13 (by decide) (hs_iretK (by decide) dL_joined_14 rfl))))))))
theorem hL_joined (d : Nat) (a1 : Int32) (h h1 : hq_H) (res : hq_R) (m : hq_Met d MX6_joined [.inr (3, 0), hz_i a1] h res h1) (ok : hz_thr hz_IAE hz_IAE res) : ∃ (k : Int32) (hr : hq_H), hq_MetK (d + 1) ML_joined hhL_joined [.inr (3, 0), hz_i a1, .inr (20, 0)] h (hz_o k) hr ∧ hz_hout hz_IAE res k h1 hr := by
  match res, m, ok with
  | .inl (some (.inl (.int x))), m, ok =>
    refine ⟨0, hq_sl h1 20 0 0 x.toInt64, hq_introK (ls := [some (.inr (3, 0)), some (hz_i a1), some (.inr (20, 0)), none]) (by decide +kernel) rfl (fun _ => Nat.le_of_ble_eq_true rfl) (fun _ => trivial) (bL_joined d _ _ _ _ _ ?_), rfl, rfl⟩
    exact ⟨[hz_i a1], 0, [.inl (.int 0), .inr (20, 0)], rfl, rfl, by decide, _, _, m, ⟨0, by decide, rfl, rfl, rfl⟩⟩
  | .inr E, m, ok =>
    rcases ok with rfl | rfl
    · refine ⟨1, h1, hq_introK (ls := [some (.inr (3, 0)), some (hz_i a1), some (.inr (20, 0)), none]) (by decide +kernel) rfl (fun _ => Nat.le_of_ble_eq_true rfl) (fun _ => trivial) (bL_joined d _ _ _ _ _ ?_), (if_pos rfl).symm, rfl⟩
      exact ⟨[hz_i a1], 0, [.inl (.int 0), .inr (20, 0)], rfl, rfl, by decide, _, _, m, Or.inl ⟨rfl, fun q => ⟨rfl, rfl⟩⟩⟩
    · refine ⟨1, h1, hq_introK (ls := [some (.inr (3, 0)), some (hz_i a1), some (.inr (20, 0)), none]) (by decide +kernel) rfl (fun _ => Nat.le_of_ble_eq_true rfl) (fun _ => trivial) (bL_joined d _ _ _ _ _ ?_), (if_pos rfl).symm, rfl⟩
      exact ⟨[hz_i a1], 0, [.inl (.int 0), .inr (20, 0)], rfl, rfl, by decide, _, _, m, Or.inl ⟨rfl, fun q => ⟨rfl, rfl⟩⟩⟩
abbrev ML_forced : hq_M := (yL_forced, cL_forced, 4, (some .int))
def hhL_forced : hq_HH := [(0, 9, 12, 21)]
theorem mdL_forced : hq_mk ML_forced hhL_forced 3 := ⟨⟨by decide +kernel, by decide +kernel, by decide +kernel⟩, hq_m4 235 rfl rfl, hq_m1 0 rfl rfl, by decide, by decide +kernel, hq_m4 234 rfl rfl⟩
theorem wLM_91 : Cond.methodLink RL 91 yX6_forced ∈ hq_ws := hq_m4 236 rfl rfl
theorem catL_forced_0 : hq_cat ML_forced hhL_forced 4 hz_IOB 12 := ⟨[], ⟨0, 9, 12, 21⟩, [], hz_IOB, rfl, fun z hz => absurd hz List.not_mem_nil, by decide, by decide, rfl, wLC_21, List.mem_of_getElem? (i := 8) rfl⟩
theorem bL_forced (d : Nat) (res : hq_R) (hr : hq_H) : hq_S (hq_Gk ML_forced hhL_forced res hr 0) ML_forced d 0 (hk_aload 2 (hk_iconst 0 (hk_aload 0 (hk_iload 1 (hk_tc 1 3 d MX6_forced hz_IOB hz_IOB (hk_i2l (hk_last 20 1 (hk_goto (hk_iconst 0 (hk_iret res hr))))) (hk_astoreX 3 (hk_iconst 1 (hk_iret res hr))) (hk_astoreX 3 (hk_iconst 1 (hk_iret res hr)))))))) := (hs_aload_n dL_forced_0 rfl (hs_iconst dL_forced_1 (by decide) (hs_aload_n dL_forced_2 rfl (hs_iload_n dL_forced_3 rfl (hs_tc (ci := 6) (N := 9) (T := TX6) dL_forced_4 mdX6_forced wLM_91 rfl rfl catL_forced_0 catL_forced_0 (hs_i2l dL_forced_7 (hs_last dL_forced_8 rfl (by decide) (hs_goto dL_forced_9 (by decide) (hs_iconst dL_forced_15 (by decide) (hs_iretK (by decide) dL_forced_16 rfl))))) (hs_astoreX_n dL_forced_12 rfl (Nat.le_of_ble_eq_true rfl) (hs_iconst dL_forced_13 (by decide) (hs_iretK (by decide) dL_forced_14 rfl))) (hs_astoreX_n dL_forced_12 rfl (Nat.le_of_ble_eq_true rfl) (hs_iconst dL_forced_13 (by decide) (hs_iretK (by decide) dL_forced_14 rfl))))))))
theorem hL_forced (d : Nat) (a1 : Int32) (h h1 : hq_H) (res : hq_R) (m : hq_Met d MX6_forced [.inr (3, 0), hz_i a1] h res h1) (ok : hz_thr hz_IOB hz_IOB res) : ∃ (k : Int32) (hr : hq_H), hq_MetK (d + 1) ML_forced hhL_forced [.inr (3, 0), hz_i a1, .inr (20, 0)] h (hz_o k) hr ∧ hz_hout hz_IOB res k h1 hr := by
  match res, m, ok with
  | .inl (some (.inl (.int x))), m, ok =>
    refine ⟨0, hq_sl h1 20 0 0 x.toInt64, hq_introK (ls := [some (.inr (3, 0)), some (hz_i a1), some (.inr (20, 0)), none]) (by decide +kernel) rfl (fun _ => Nat.le_of_ble_eq_true rfl) (fun _ => trivial) (bL_forced d _ _ _ _ _ ?_), rfl, rfl⟩
    exact ⟨[hz_i a1], 0, [.inl (.int 0), .inr (20, 0)], rfl, rfl, by decide, _, _, m, ⟨0, by decide, rfl, rfl, rfl⟩⟩
  | .inr E, m, ok =>
    rcases ok with rfl | rfl
    · refine ⟨1, h1, hq_introK (ls := [some (.inr (3, 0)), some (hz_i a1), some (.inr (20, 0)), none]) (by decide +kernel) rfl (fun _ => Nat.le_of_ble_eq_true rfl) (fun _ => trivial) (bL_forced d _ _ _ _ _ ?_), (if_pos rfl).symm, rfl⟩
      exact ⟨[hz_i a1], 0, [.inl (.int 0), .inr (20, 0)], rfl, rfl, by decide, _, _, m, Or.inl ⟨rfl, fun q => ⟨rfl, rfl⟩⟩⟩
    · refine ⟨1, h1, hq_introK (ls := [some (.inr (3, 0)), some (hz_i a1), some (.inr (20, 0)), none]) (by decide +kernel) rfl (fun _ => Nat.le_of_ble_eq_true rfl) (fun _ => trivial) (bL_forced d _ _ _ _ _ ?_), (if_pos rfl).symm, rfl⟩
      exact ⟨[hz_i a1], 0, [.inl (.int 0), .inr (20, 0)], rfl, rfl, by decide, _, _, m, Or.inl ⟨rfl, fun q => ⟨rfl, rfl⟩⟩⟩
abbrev ML_follows : hq_M := (yL_follows, cL_follows, 4, (some .int))
def hhL_follows : hq_HH := [(0, 16, 19, 21)]
theorem mdL_follows : hq_mk ML_follows hhL_follows 3 := ⟨⟨by decide +kernel, by decide +kernel, by decide +kernel⟩, hq_m5 2 rfl rfl, hq_m1 0 rfl rfl, by decide, by decide +kernel, hq_m5 1 rfl rfl⟩
theorem wLM_94 : Cond.methodLink RL 94 yX6_follows ∈ hq_ws := hq_m5 3 rfl rfl
theorem catL_follows_0 : hq_cat ML_follows hhL_follows 4 hz_IOB 19 := ⟨[], ⟨0, 16, 19, 21⟩, [], hz_IOB, rfl, fun z hz => absurd hz List.not_mem_nil, by decide, by decide, rfl, wLC_21, List.mem_of_getElem? (i := 8) rfl⟩
theorem bL_follows (d : Nat) (res : hq_R) (hr : hq_H) : hq_S (hq_Gk ML_follows hhL_follows res hr 0) ML_follows d 0 (hk_aload 2 (hk_iconst 0 (hk_aload 0 (hk_iload 1 (hk_tc 1 3 d MX6_follows hz_IOB hz_IOB (hk_if_eq (hk_lconst 0 (hk_last 20 1 (hk_goto (hk_iconst 0 (hk_iret res hr))))) (hk_lconst 1 (hk_goto (hk_last 20 1 (hk_goto (hk_iconst 0 (hk_iret res hr))))))) (hk_astoreX 3 (hk_iconst 1 (hk_iret res hr))) (hk_astoreX 3 (hk_iconst 1 (hk_iret res hr)))))))) := (hs_aload_n dL_follows_0 rfl (hs_iconst dL_follows_1 (by decide) (hs_aload_n dL_follows_2 rfl (hs_iload_n dL_follows_3 rfl (hs_tc (ci := 6) (N := 9) (T := TX6) dL_follows_4 mdX6_follows wLM_94 rfl rfl catL_follows_0 catL_follows_0 (hs_if_eq dL_follows_7 (by decide) (hs_lconst dL_follows_14 (by decide) (hs_last dL_follows_15 rfl (by decide) (hs_goto dL_follows_16 (by decide) (hs_iconst dL_follows_22 (by decide) (hs_iretK (by decide) dL_follows_23 rfl))))) (hs_lconst dL_follows_10 (by decide) (hs_goto dL_follows_11 (by decide) (hs_last dL_follows_15 rfl (by decide) (hs_goto dL_follows_16 (by decide) (hs_iconst dL_follows_22 (by decide) (hs_iretK (by decide) dL_follows_23 rfl))))))) (hs_astoreX_n dL_follows_19 rfl (Nat.le_of_ble_eq_true rfl) (hs_iconst dL_follows_20 (by decide) (hs_iretK (by decide) dL_follows_21 rfl))) (hs_astoreX_n dL_follows_19 rfl (Nat.le_of_ble_eq_true rfl) (hs_iconst dL_follows_20 (by decide) (hs_iretK (by decide) dL_follows_21 rfl))))))))
theorem hL_follows (d : Nat) (a1 : Int32) (h h1 : hq_H) (res : hq_R) (m : hq_Met d MX6_follows [.inr (3, 0), hz_i a1] h res h1) (ok : hz_thrZ hz_IOB hz_IOB res) : ∃ (k : Int32) (hr : hq_H), hq_MetK (d + 1) ML_follows hhL_follows [.inr (3, 0), hz_i a1, .inr (20, 0)] h (hz_o k) hr ∧ hz_hout hz_IOB res k h1 hr := by
  match res, m, ok with
  | .inl (some (.inl (.int x))), m, ok =>
    rcases ok with rfl | rfl
    · refine ⟨0, hq_sl h1 20 0 0 0, hq_introK (ls := [some (.inr (3, 0)), some (hz_i a1), some (.inr (20, 0)), none]) (by decide +kernel) rfl (fun _ => Nat.le_of_ble_eq_true rfl) (fun _ => trivial) (bL_follows d _ _ _ _ _ ?_), rfl, rfl⟩
      exact ⟨[hz_i a1], 0, [.inl (.int 0), .inr (20, 0)], rfl, rfl, by decide, _, _, m, hq_bt rfl ⟨0, by decide, rfl, rfl, rfl⟩⟩
    · refine ⟨0, hq_sl h1 20 0 0 1, hq_introK (ls := [some (.inr (3, 0)), some (hz_i a1), some (.inr (20, 0)), none]) (by decide +kernel) rfl (fun _ => Nat.le_of_ble_eq_true rfl) (fun _ => trivial) (bL_follows d _ _ _ _ _ ?_), rfl, rfl⟩
      exact ⟨[hz_i a1], 0, [.inl (.int 0), .inr (20, 0)], rfl, rfl, by decide, _, _, m, hq_bf hz_one0 ⟨0, by decide, rfl, rfl, rfl⟩⟩
  | .inr E, m, ok =>
    rcases ok with rfl | rfl
    · refine ⟨1, h1, hq_introK (ls := [some (.inr (3, 0)), some (hz_i a1), some (.inr (20, 0)), none]) (by decide +kernel) rfl (fun _ => Nat.le_of_ble_eq_true rfl) (fun _ => trivial) (bL_follows d _ _ _ _ _ ?_), (if_pos rfl).symm, rfl⟩
      exact ⟨[hz_i a1], 0, [.inl (.int 0), .inr (20, 0)], rfl, rfl, by decide, _, _, m, Or.inl ⟨rfl, fun q => ⟨rfl, rfl⟩⟩⟩
    · refine ⟨1, h1, hq_introK (ls := [some (.inr (3, 0)), some (hz_i a1), some (.inr (20, 0)), none]) (by decide +kernel) rfl (fun _ => Nat.le_of_ble_eq_true rfl) (fun _ => trivial) (bL_follows d _ _ _ _ _ ?_), (if_pos rfl).symm, rfl⟩
      exact ⟨[hz_i a1], 0, [.inl (.int 0), .inr (20, 0)], rfl, rfl, by decide, _, _, m, Or.inl ⟨rfl, fun q => ⟨rfl, rfl⟩⟩⟩
abbrev ML_followsBySplitting : hq_M := (yL_followsBySplitting, cL_followsBySplitting, 4, (some .int))
def hhL_followsBySplitting : hq_HH := [(0, 16, 19, 21)]
theorem mdL_followsBySplitting : hq_mk ML_followsBySplitting hhL_followsBySplitting 3 := ⟨⟨by decide +kernel, by decide +kernel, by decide +kernel⟩, hq_m5 9 rfl rfl, hq_m1 0 rfl rfl, by decide, by decide +kernel, hq_m5 8 rfl rfl⟩
theorem wLM_97 : Cond.methodLink RL 97 yX6_followsBySplitting ∈ hq_ws := hq_m5 10 rfl rfl
theorem catL_followsBySplitting_0 : hq_cat ML_followsBySplitting hhL_followsBySplitting 4 hz_IOB 19 := ⟨[], ⟨0, 16, 19, 21⟩, [], hz_IOB, rfl, fun z hz => absurd hz List.not_mem_nil, by decide, by decide, rfl, wLC_21, List.mem_of_getElem? (i := 8) rfl⟩
theorem bL_followsBySplitting (d : Nat) (res : hq_R) (hr : hq_H) : hq_S (hq_Gk ML_followsBySplitting hhL_followsBySplitting res hr 0) ML_followsBySplitting d 0 (hk_aload 2 (hk_iconst 0 (hk_aload 0 (hk_iload 1 (hk_tc 1 3 d MX6_followsBySplitting hz_IOB hz_IOB (hk_if_eq (hk_lconst 0 (hk_last 20 1 (hk_goto (hk_iconst 0 (hk_iret res hr))))) (hk_lconst 1 (hk_goto (hk_last 20 1 (hk_goto (hk_iconst 0 (hk_iret res hr))))))) (hk_astoreX 3 (hk_iconst 1 (hk_iret res hr))) (hk_astoreX 3 (hk_iconst 1 (hk_iret res hr)))))))) := (hs_aload_n dL_followsBySplitting_0 rfl (hs_iconst dL_followsBySplitting_1 (by decide) (hs_aload_n dL_followsBySplitting_2 rfl (hs_iload_n dL_followsBySplitting_3 rfl (hs_tc (ci := 6) (N := 9) (T := TX6) dL_followsBySplitting_4 mdX6_followsBySplitting wLM_97 rfl rfl catL_followsBySplitting_0 catL_followsBySplitting_0 (hs_if_eq dL_followsBySplitting_7 (by decide) (hs_lconst dL_followsBySplitting_14 (by decide) (hs_last dL_followsBySplitting_15 rfl (by decide) (hs_goto dL_followsBySplitting_16 (by decide) (hs_iconst dL_followsBySplitting_22 (by decide) (hs_iretK (by decide) dL_followsBySplitting_23 rfl))))) (hs_lconst dL_followsBySplitting_10 (by decide) (hs_goto dL_followsBySplitting_11 (by decide) (hs_last dL_followsBySplitting_15 rfl (by decide) (hs_goto dL_followsBySplitting_16 (by decide) (hs_iconst dL_followsBySplitting_22 (by decide) (hs_iretK (by decide) dL_followsBySplitting_23 rfl))))))) (hs_astoreX_n dL_followsBySplitting_19 rfl (Nat.le_of_ble_eq_true rfl) (hs_iconst dL_followsBySplitting_20 (by decide) (hs_iretK (by decide) dL_followsBySplitting_21 rfl))) (hs_astoreX_n dL_followsBySplitting_19 rfl (Nat.le_of_ble_eq_true rfl) (hs_iconst dL_followsBySplitting_20 (by decide) (hs_iretK (by decide) dL_followsBySplitting_21 rfl))))))))
theorem hL_followsBySplitting (d : Nat) (a1 : Int32) (h h1 : hq_H) (res : hq_R) (m : hq_Met d MX6_followsBySplitting [.inr (3, 0), hz_i a1] h res h1) (ok : hz_thrZ hz_IOB hz_IOB res) : ∃ (k : Int32) (hr : hq_H), hq_MetK (d + 1) ML_followsBySplitting hhL_followsBySplitting [.inr (3, 0), hz_i a1, .inr (20, 0)] h (hz_o k) hr ∧ hz_hout hz_IOB res k h1 hr := by
  match res, m, ok with
  | .inl (some (.inl (.int x))), m, ok =>
    rcases ok with rfl | rfl
    · refine ⟨0, hq_sl h1 20 0 0 0, hq_introK (ls := [some (.inr (3, 0)), some (hz_i a1), some (.inr (20, 0)), none]) (by decide +kernel) rfl (fun _ => Nat.le_of_ble_eq_true rfl) (fun _ => trivial) (bL_followsBySplitting d _ _ _ _ _ ?_), rfl, rfl⟩
      exact ⟨[hz_i a1], 0, [.inl (.int 0), .inr (20, 0)], rfl, rfl, by decide, _, _, m, hq_bt rfl ⟨0, by decide, rfl, rfl, rfl⟩⟩
    · refine ⟨0, hq_sl h1 20 0 0 1, hq_introK (ls := [some (.inr (3, 0)), some (hz_i a1), some (.inr (20, 0)), none]) (by decide +kernel) rfl (fun _ => Nat.le_of_ble_eq_true rfl) (fun _ => trivial) (bL_followsBySplitting d _ _ _ _ _ ?_), rfl, rfl⟩
      exact ⟨[hz_i a1], 0, [.inl (.int 0), .inr (20, 0)], rfl, rfl, by decide, _, _, m, hq_bf hz_one0 ⟨0, by decide, rfl, rfl, rfl⟩⟩
  | .inr E, m, ok =>
    rcases ok with rfl | rfl
    · refine ⟨1, h1, hq_introK (ls := [some (.inr (3, 0)), some (hz_i a1), some (.inr (20, 0)), none]) (by decide +kernel) rfl (fun _ => Nat.le_of_ble_eq_true rfl) (fun _ => trivial) (bL_followsBySplitting d _ _ _ _ _ ?_), (if_pos rfl).symm, rfl⟩
      exact ⟨[hz_i a1], 0, [.inl (.int 0), .inr (20, 0)], rfl, rfl, by decide, _, _, m, Or.inl ⟨rfl, fun q => ⟨rfl, rfl⟩⟩⟩
    · refine ⟨1, h1, hq_introK (ls := [some (.inr (3, 0)), some (hz_i a1), some (.inr (20, 0)), none]) (by decide +kernel) rfl (fun _ => Nat.le_of_ble_eq_true rfl) (fun _ => trivial) (bL_followsBySplitting d _ _ _ _ _ ?_), (if_pos rfl).symm, rfl⟩
      exact ⟨[hz_i a1], 0, [.inl (.int 0), .inr (20, 0)], rfl, rfl, by decide, _, _, m, Or.inl ⟨rfl, fun q => ⟨rfl, rfl⟩⟩⟩
abbrev ML_finesIn : hq_M := (yL_finesIn, cL_finesIn, 4, (some .int))
def hhL_finesIn : hq_HH := [(0, 9, 12, 13)]
theorem mdL_finesIn : hq_mk ML_finesIn hhL_finesIn 3 := ⟨⟨by decide +kernel, by decide +kernel, by decide +kernel⟩, hq_m5 16 rfl rfl, hq_m1 0 rfl rfl, by decide, by decide +kernel, hq_m5 15 rfl rfl⟩
theorem wLM_100 : Cond.methodLink RL 100 yX6_finesIn ∈ hq_ws := hq_m5 17 rfl rfl
theorem catL_finesIn_0 : hq_cat ML_finesIn hhL_finesIn 4 hz_IAE 12 := ⟨[], ⟨0, 9, 12, 13⟩, [], hz_IAE, rfl, fun z hz => absurd hz List.not_mem_nil, by decide, by decide, rfl, wLC_13, List.mem_of_getElem? (i := 0) rfl⟩
theorem bL_finesIn (d : Nat) (res : hq_R) (hr : hq_H) : hq_S (hq_Gk ML_finesIn hhL_finesIn res hr 0) ML_finesIn d 0 (hk_aload 2 (hk_iconst 0 (hk_aload 0 (hk_iload 1 (hk_tc 1 3 d MX6_finesIn hz_IAE hz_IAE (hk_i2l (hk_last 20 1 (hk_goto (hk_iconst 0 (hk_iret res hr))))) (hk_astoreX 3 (hk_iconst 1 (hk_iret res hr))) (hk_astoreX 3 (hk_iconst 1 (hk_iret res hr)))))))) := (hs_aload_n dL_finesIn_0 rfl (hs_iconst dL_finesIn_1 (by decide) (hs_aload_n dL_finesIn_2 rfl (hs_iload_n dL_finesIn_3 rfl (hs_tc (ci := 6) (N := 9) (T := TX6) dL_finesIn_4 mdX6_finesIn wLM_100 rfl rfl catL_finesIn_0 catL_finesIn_0 (hs_i2l dL_finesIn_7 (hs_last dL_finesIn_8 rfl (by decide) (hs_goto dL_finesIn_9 (by decide) (hs_iconst dL_finesIn_15 (by decide) (hs_iretK (by decide) dL_finesIn_16 rfl))))) (hs_astoreX_n dL_finesIn_12 rfl (Nat.le_of_ble_eq_true rfl) (hs_iconst dL_finesIn_13 (by decide) (hs_iretK (by decide) dL_finesIn_14 rfl))) (hs_astoreX_n dL_finesIn_12 rfl (Nat.le_of_ble_eq_true rfl) (hs_iconst dL_finesIn_13 (by decide) (hs_iretK (by decide) dL_finesIn_14 rfl))))))))
theorem hL_finesIn (d : Nat) (a1 : Int32) (h h1 : hq_H) (res : hq_R) (m : hq_Met d MX6_finesIn [.inr (3, 0), hz_i a1] h res h1) (ok : hz_thr hz_IAE hz_IAE res) : ∃ (k : Int32) (hr : hq_H), hq_MetK (d + 1) ML_finesIn hhL_finesIn [.inr (3, 0), hz_i a1, .inr (20, 0)] h (hz_o k) hr ∧ hz_hout hz_IAE res k h1 hr := by
  match res, m, ok with
  | .inl (some (.inl (.int x))), m, ok =>
    refine ⟨0, hq_sl h1 20 0 0 x.toInt64, hq_introK (ls := [some (.inr (3, 0)), some (hz_i a1), some (.inr (20, 0)), none]) (by decide +kernel) rfl (fun _ => Nat.le_of_ble_eq_true rfl) (fun _ => trivial) (bL_finesIn d _ _ _ _ _ ?_), rfl, rfl⟩
    exact ⟨[hz_i a1], 0, [.inl (.int 0), .inr (20, 0)], rfl, rfl, by decide, _, _, m, ⟨0, by decide, rfl, rfl, rfl⟩⟩
  | .inr E, m, ok =>
    rcases ok with rfl | rfl
    · refine ⟨1, h1, hq_introK (ls := [some (.inr (3, 0)), some (hz_i a1), some (.inr (20, 0)), none]) (by decide +kernel) rfl (fun _ => Nat.le_of_ble_eq_true rfl) (fun _ => trivial) (bL_finesIn d _ _ _ _ _ ?_), (if_pos rfl).symm, rfl⟩
      exact ⟨[hz_i a1], 0, [.inl (.int 0), .inr (20, 0)], rfl, rfl, by decide, _, _, m, Or.inl ⟨rfl, fun q => ⟨rfl, rfl⟩⟩⟩
    · refine ⟨1, h1, hq_introK (ls := [some (.inr (3, 0)), some (hz_i a1), some (.inr (20, 0)), none]) (by decide +kernel) rfl (fun _ => Nat.le_of_ble_eq_true rfl) (fun _ => trivial) (bL_finesIn d _ _ _ _ _ ?_), (if_pos rfl).symm, rfl⟩
      exact ⟨[hz_i a1], 0, [.inl (.int 0), .inr (20, 0)], rfl, rfl, by decide, _, _, m, Or.inl ⟨rfl, fun q => ⟨rfl, rfl⟩⟩⟩
