-- ===== the law's cases =====
abbrev hq_ll (bs i : Nat) (v5 v6 v7 v8 : Option hq_V) : hq_L := [some (.inl (.ref bs)), some (.inr (3, 0)), some (.inr (13, 0)), some (.inr (20, 0)), some (hz_i (nI i)), v5, v6, v7, v8]
theorem hz_far_RC {h h' : hq_H} {w : hz_W} (s : hw_stay (fun k _ => 13 ≤ k) h h') (R : hz_RC h w) : hz_RC h' w := by
  obtain ⟨a, b, c, e, f⟩ := R
  refine ⟨hz_HC_stay s b.1 (fun k i z y => by have := hw_own_k z; omega) a, b, hz_SN_stay s (by omega) (fun k i z y => by have := hw_own_k z; omega) c, hz_SV_stay s (by omega) (fun j k i _ _ z y => by have := hw_own_k z; omega) e, f.1, ?_, fun i hi => ?_⟩
  · rw [(s 3 0 (by omega)).1]
    exact f.2.1
  · rw [(s 6 0 (by omega)).1]
    exact f.2.2 i hi
theorem hm_far_RM {h h' : hq_H} {w : hz_W} (s : hw_stay (fun k _ => k < 13 ∨ k = 20) h h') (R : hm_RM h w) : hm_RM h' w := by
  have e13 := (s 13 0 (by omega)).1
  have e14 := (s 14 0 (by omega)).1
  have e15 := (s 15 0 (by omega)).1
  have e16 := (s 16 0 (by omega)).2
  have e18 := (s 18 0 (by omega)).1
  have e19 := (s 19 0 (by omega)).1
  have es : ∀ q, hm_slot h' q = hm_slot h q := fun q => by
    unfold hm_slot
    rw [e14]
  obtain ⟨a, b, c, e, L, j1, j2, j3, j4⟩ := R
  refine ⟨⟨by rw [e14]; exact a.1, ?_⟩, ?_, ⟨c.1, by rw [e13]; exact c.2.1, fun i hi => by rw [es]; exact c.2.2 i hi⟩, ⟨by rw [e13]; exact e.1, fun i hi => by rw [e15]; exact e.2 i hi⟩, L, by rw [e13]; exact j1, fun i hi => by rw [e19]; exact j2 i hi, fun i hi => by rw [e18]; exact j3 i hi, j4⟩
  · unfold hm_L
    rw [e16]
    exact a.2
  · revert b
    cases w.2.1 with
    | none => exact fun b => (congrFun e13 2).trans b
    | some s => exact fun b => ⟨by rw [e13]; exact b.1, by rw [es]; exact b.2⟩
theorem m_thrown (d : Nat) (h : hq_H) : hq_Met (d + 1) MX7_thrown [.inr (13, 0)] h (hz_o (h.1 13 0 3)) h := inX7_thrown d 0 h _ _ (fun _ => trivial) (fun J b0 => b0 _ _ _ ⟨rfl, rfl⟩)
theorem lg_cmp_s (x : Int64) : lg_cmp x x = 0 := by
  unfold lg_cmp
  simp
theorem hz_after {E1 : String} {Xr : hq_R} {k : Int32} {h1 hr : hq_H} {w w' : hz_W} (ho : hz_hout E1 Xr k h1 hr) (R1 : hz_RC h1 w') (M1 : hm_RM h1 w) : hz_RC hr w' ∧ hm_RM hr w := by
  have key : hr = h1 ∨ ∃ v, hr = hq_sl h1 20 0 0 v := by
    unfold hz_hout at ho
    split at ho
    · exact Or.inr ⟨_, ho.2⟩
    · exact Or.inl ho.2
    · exact ho.elim
  rcases key with e | ⟨v, e⟩
  · rw [e]
    exact ⟨R1, M1⟩
  · have s : hw_stay (fun k _ => k = 20) h1 hr := fun k i hn => by
      rw [e]
      exact ⟨rfl, hq_sl_o _ _ _ (fun z => hn z.1)⟩
    exact ⟨hz_far_RC (s.weak (fun k i z => by omega)) R1, hm_far_RM (s.weak (fun k i z => Or.inr z)) M1⟩
def kTi (J : hq_C) : hq_C := hk_istore 6 (hk_aload 2 (hk_v1r 13 16 MX7_thrown (hk_iload 5 (hk_icmp_eq (hk_iload 5 (hk_if_ne (hk_goto J) (hk_aload 3 (hk_iconst 0 (hk_lald 20 1 (hk_iload 6 (hk_i2l (hk_lcmp (hk_if_eq (hk_goto J) hk_no))))))))) hk_no))))
def kTz (J : hq_C) : hq_C := hk_istore 6 (hk_aload 2 (hk_v1r 13 16 MX7_thrown (hk_iload 5 (hk_icmp_eq (hk_iload 5 (hk_if_ne (hk_goto J) (hk_aload 3 (hk_iconst 0 (hk_lald 20 1 (hk_iload 6 (hk_if_eq (hk_lconst 0 (hk_lcmp (hk_if_eq (hk_goto J) hk_no))) (hk_lconst 1 (hk_goto (hk_lcmp (hk_if_eq (hk_goto J) hk_no))))))))))) hk_no))))
theorem hz_ti {bs i : Nat} {v6 v7 v8 : Option hq_V} {g' h1 hr : hq_H} {k : Int32} {v : Value} {E1 : String} {Xr : hq_R} {J : hq_C} (ho : hz_hout E1 Xr k h1 hr) (ha : hm_ans (g'.1 13 0 3) v E1 Xr) (hs : g'.2 20 0 = hr.2 20 0) (kk : ∀ v5 v6, J (hq_ll bs i v5 v6 v7 v8) [] g') : kTi J (hq_ll bs i (some (hz_i k)) v6 v7 v8) [.inl v] g' := by
  unfold hz_hout at ho
  split at ho
  · next x =>
    obtain ⟨rfl, e⟩ := ho
    obtain ⟨t0, rfl⟩ := ha
    have e2 : g'.2 20 0 0 = x.toInt64 := by rw [hs, e, hq_sl_s, if_pos rfl]
    refine ⟨_, _, m_thrown 15 g', ?_⟩
    refine hq_bt t0 ?_
    refine hq_nf rfl ?_
    refine ⟨0, by decide, rfl, ?_⟩
    refine hq_bt ?_ (kk _ _)
    show lg_cmp (g'.2 20 0 0) x.toInt64 = 0
    rw [e2]
    exact lg_cmp_s _
  · next E =>
    obtain ⟨rfl, e⟩ := ho
    obtain ⟨t0, z, rfl⟩ := ha
    refine ⟨_, _, m_thrown 15 g', ?_⟩
    refine hq_bt t0 ?_
    refine hq_nt ?_ (kk _ _)
    show ¬ (if E = E1 then (1 : Int32) else 2) = 0
    split <;> decide
  · exact ho.elim
theorem hz_tz {bs i : Nat} {v6 v7 v8 : Option hq_V} {g' h1 hr : hq_H} {k : Int32} {v : Value} {E1 E2 : String} {Xr : hq_R} {J : hq_C} (hz : hz_thrZ E1 E2 Xr) (ho : hz_hout E1 Xr k h1 hr) (ha : hm_ans (g'.1 13 0 3) v E1 Xr) (hs : g'.2 20 0 = hr.2 20 0) (kk : ∀ v5 v6, J (hq_ll bs i v5 v6 v7 v8) [] g') : kTz J (hq_ll bs i (some (hz_i k)) v6 v7 v8) [.inl v] g' := by
  unfold hz_hout at ho
  split at ho
  · next x =>
    obtain ⟨rfl, e⟩ := ho
    obtain ⟨t0, rfl⟩ := ha
    have e2 : g'.2 20 0 0 = x.toInt64 := by rw [hs, e, hq_sl_s, if_pos rfl]
    refine ⟨_, _, m_thrown 15 g', ?_⟩
    refine hq_bt t0 ?_
    refine hq_nf rfl ?_
    refine ⟨0, by decide, rfl, ?_⟩
    rcases hz with rfl | rfl
    · refine hq_bt rfl (hq_bt ?_ (kk _ _))
      show lg_cmp (g'.2 20 0 0) 0 = 0
      rw [e2]
      rfl
    · refine hq_bf hz_one0 (hq_bt ?_ (kk _ _))
      show lg_cmp (g'.2 20 0 0) 1 = 0
      rw [e2]
      rfl
  · next E =>
    obtain ⟨rfl, e⟩ := ho
    obtain ⟨t0, z, rfl⟩ := ha
    refine ⟨_, _, m_thrown 15 g', ?_⟩
    refine hq_bt t0 ?_
    refine hq_nt ?_ (kk _ _)
    show ¬ (if E = E1 then (1 : Int32) else 2) = 0
    split <;> decide
  · exact ho.elim
theorem th_make (w : hz_W) (f l e : Int32) : hz_thr hz_IAE hz_ISE (sp_make w f l e).1 := by
  by_cases c : hz_mkc f l e
  · by_cases n : w.1.1 < 10
    · rw [sp_make_y c n]; trivial
    · rw [sp_make_f c n]; exact Or.inr rfl
  · rw [sp_make_n c]; exact Or.inl rfl
theorem th_attr3 {w : hz_W} (ok : hz_okW w) (x : Int32) : hz_thrZ hz_IOB hz_IOB (sp_attr w x 3).1 := by
  unfold sp_attr
  cases hx : hz_ix x w.1.1 with
  | none => exact Or.inl rfl
  | some k => exact ok.1.s k (hz_ix_s (show w.1.1 < 2 ^ 31 by have := ok.1.1; omega) hx).2
theorem th_setStrict {w : hz_W} (ok : hz_okW w) (x : Int32) (b : Bool) : hz_thrZ hz_IOB hz_IOB (sp_setStrict w x b).1 := by
  unfold sp_setStrict
  cases hx : hz_ix x w.1.1 with
  | none => exact Or.inl rfl
  | some k => exact ok.1.s k (hz_ix_s (show w.1.1 < 2 ^ 31 by have := ok.1.1; omega) hx).2
theorem hz_fv_d : ∀ n, n < 10 → ∀ s, s < 91 → hz_nan (FP.f2d (hz_fv s (n + 1))) = true := by decide +kernel
theorem hz_f2d_mean {st : hz_St} (ok : hz_okS st) : vf_n64 (FP.f2d (hz_mean st)) := by
  refine hz_nan_is ?_
  unfold hz_mean
  by_cases c : st.1 = 0
  · rw [if_pos c]
    decide +kernel
  · rw [if_neg c]
    have n10 := ok.1
    have := hz_fv_d (st.1 - 1) (by omega) (hz_prs st) (by have := hz_cost_90 ok (fun _ => true); show hz_ns (fun _ => true) (hz_pr st) st.1 < 91; omega)
    rw [show st.1 - 1 + 1 = st.1 by omega] at this
    exact this

theorem th_withdraw (w : hz_W) (x : Int32) : hz_thr hz_IOB hz_IOB (sp_withdraw w x).1 := by
  unfold sp_withdraw
  split <;> first | exact Or.inl rfl | exact Or.inr rfl | (exact trivial) | (split <;> first | exact Or.inl rfl | exact Or.inr rfl | (exact trivial))
theorem th_waive (w : hz_W) (x y : Int32) : hz_thr hz_IOB hz_IAE (sp_waive w x y).1 := by
  unfold sp_waive
  split <;> first | exact Or.inl rfl | exact Or.inr rfl | (exact trivial) | (split <;> first | exact Or.inl rfl | exact Or.inr rfl | (exact trivial))
theorem th_come (w : hz_W) (x : Int32) : hz_thr hz_IOB hz_ISE (sp_move w x false).1 := by
  unfold sp_move
  split <;> first | exact Or.inl rfl | exact Or.inr rfl | (exact trivial) | (split <;> first | exact Or.inl rfl | exact Or.inr rfl | (exact trivial))
theorem th_go (w : hz_W) (x : Int32) : hz_thr hz_IOB hz_ISE (sp_move w x true).1 := by
  unfold sp_move
  split <;> first | exact Or.inl rfl | exact Or.inr rfl | (exact trivial) | (split <;> first | exact Or.inl rfl | exact Or.inr rfl | (exact trivial))
theorem th_pass (w : hz_W) (x : Int32) : hz_thr hz_IAE hz_IAE (sp_pass w x).1 := by
  unfold sp_pass
  split <;> first | exact Or.inl rfl | exact Or.inr rfl | (exact trivial) | (split <;> first | exact Or.inl rfl | exact Or.inr rfl | (exact trivial))
theorem th_append (w : hz_W) (x : Int32) : hz_thr hz_IAE hz_ISE (sp_append w x).1 := by
  unfold sp_append
  split <;> first | exact Or.inl rfl | exact Or.inr rfl | (exact trivial) | (split <;> first | exact Or.inl rfl | exact Or.inr rfl | (exact trivial))
theorem th_runLog (w : hz_W) (r : Nat → Int32) : hz_thr hz_IAE hz_IAE (sp_runLog w r).1 := by
  unfold sp_runLog
  split <;> first | exact Or.inl rfl | exact Or.inr rfl | (exact trivial) | (split <;> first | exact Or.inl rfl | exact Or.inr rfl | (exact trivial))
theorem th_goBack (w : hz_W)  : hz_thr hz_ISE hz_ISE (sp_goBack w).1 := by
  unfold sp_goBack
  split <;> first | exact Or.inl rfl | exact Or.inr rfl | (exact trivial) | (split <;> first | exact Or.inl rfl | exact Or.inr rfl | (exact trivial))
theorem th_undo (w : hz_W)  : hz_thr hz_ISE hz_ISE (sp_undo w).1 := by
  unfold sp_undo
  split <;> first | exact Or.inl rfl | exact Or.inr rfl | (exact trivial) | (split <;> first | exact Or.inl rfl | exact Or.inr rfl | (exact trivial))
theorem th_shouldBeLet (w : hz_W) (x : Int32) : hz_thr hz_IOB hz_IOB (sp_attr w x 0).1 := by
  unfold sp_attr
  split <;> first | exact Or.inl rfl | exact Or.inr rfl | (exact trivial) | (split <;> first | exact Or.inl rfl | exact Or.inr rfl | (exact trivial))
theorem th_shouldBeEmpty (w : hz_W) (x : Int32) : hz_thr hz_IOB hz_IOB (sp_attr w x 1).1 := by
  unfold sp_attr
  split <;> first | exact Or.inl rfl | exact Or.inr rfl | (exact trivial) | (split <;> first | exact Or.inl rfl | exact Or.inr rfl | (exact trivial))
theorem th_fine (w : hz_W) (x : Int32) : hz_thr hz_IOB hz_IOB (sp_attr w x 2).1 := by
  unfold sp_attr
  split <;> first | exact Or.inl rfl | exact Or.inr rfl | (exact trivial) | (split <;> first | exact Or.inl rfl | exact Or.inr rfl | (exact trivial))
theorem th_waivedFor (w : hz_W) (x : Int32) : hz_thr hz_IOB hz_IOB (sp_waivedFor w x).1 := by
  unfold sp_waivedFor
  split <;> first | exact Or.inl rfl | exact Or.inr rfl | (exact trivial) | (split <;> first | exact Or.inl rfl | exact Or.inr rfl | (exact trivial))
theorem th_holdsIn (w : hz_W) (x y : Int32) : hz_thrZ hz_IOB hz_IAE (sp_holdsIn w x y).1 := by
  unfold sp_holdsIn
  split <;> first | exact Or.inl rfl | exact Or.inr rfl | (exact hz_bz _) | (split <;> first | exact Or.inl rfl | exact Or.inr rfl | (exact hz_bz _))
theorem th_refusedBy (w : hz_W) (x : Int32) : hz_thr hz_IOB hz_IOB (sp_refusedBy w x).1 := by
  unfold sp_refusedBy
  split <;> first | exact Or.inl rfl | exact Or.inr rfl | (exact trivial) | (split <;> first | exact Or.inl rfl | exact Or.inr rfl | (exact trivial))
theorem th_finesOf (w : hz_W) (x : Int32) : hz_thr hz_IOB hz_IOB (sp_attr w x 5).1 := by
  unfold sp_attr
  split <;> first | exact Or.inl rfl | exact Or.inr rfl | (exact trivial) | (split <;> first | exact Or.inl rfl | exact Or.inr rfl | (exact trivial))
theorem th_canStand (w : hz_W) (x : Int32) : hz_thrZ hz_IAE hz_IAE (sp_set w x (fun S => hz_b (hz_nz (hz_stand w.1 S)))).1 := by
  unfold sp_set
  split <;> first | exact Or.inl rfl | exact Or.inr rfl | (exact hz_bz _) | (split <;> first | exact Or.inl rfl | exact Or.inr rfl | (exact hz_bz _))
theorem th_canStandBySplitting (w : hz_W) (x : Int32) : hz_thrZ hz_IAE hz_IAE (sp_set w x (fun S => hz_b (hz_nz (hz_stand w.1 S)))).1 := by
  unfold sp_set
  split <;> first | exact Or.inl rfl | exact Or.inr rfl | (exact hz_bz _) | (split <;> first | exact Or.inl rfl | exact Or.inr rfl | (exact hz_bz _))
theorem th_canStandByJoining (w : hz_W) (x : Int32) : hz_thrZ hz_IAE hz_IAE (sp_set w x (fun S => hz_b (!hj_in (hz_joined w.1 S) 0))).1 := by
  unfold sp_set
  split <;> first | exact Or.inl rfl | exact Or.inr rfl | (exact hz_bz _) | (split <;> first | exact Or.inl rfl | exact Or.inr rfl | (exact hz_bz _))
theorem th_joined (w : hz_W) (x : Int32) : hz_thr hz_IAE hz_IAE (sp_set w x (fun S => nI (hz_joined w.1 S).1)).1 := by
  unfold sp_set
  split <;> first | exact Or.inl rfl | exact Or.inr rfl | (exact trivial) | (split <;> first | exact Or.inl rfl | exact Or.inr rfl | (exact trivial))
theorem th_forced (w : hz_W) (x : Int32) : hz_thr hz_IOB hz_IOB (sp_forced w x).1 := by
  unfold sp_forced
  split <;> first | exact Or.inl rfl | exact Or.inr rfl | (exact trivial) | (split <;> first | exact Or.inl rfl | exact Or.inr rfl | (exact trivial))
theorem th_follows (w : hz_W) (x : Int32) : hz_thrZ hz_IOB hz_IOB (sp_follows w x).1 := by
  unfold sp_follows
  split <;> first | exact Or.inl rfl | exact Or.inr rfl | (exact hz_bz _) | (split <;> first | exact Or.inl rfl | exact Or.inr rfl | (exact hz_bz _))
theorem th_followsBySplitting (w : hz_W) (x : Int32) : hz_thrZ hz_IOB hz_IOB (sp_follows w x).1 := by
  unfold sp_follows
  split <;> first | exact Or.inl rfl | exact Or.inr rfl | (exact hz_bz _) | (split <;> first | exact Or.inl rfl | exact Or.inr rfl | (exact hz_bz _))
theorem th_finesIn (w : hz_W) (x : Int32) : hz_thr hz_IAE hz_IAE (sp_finesIn w x).1 := by
  unfold sp_finesIn
  split <;> first | exact Or.inl rfl | exact Or.inr rfl | (exact trivial) | (split <;> first | exact Or.inl rfl | exact Or.inr rfl | (exact trivial))
theorem cL_272 {bs L : Nat} {xs : Nat → Int32} (hL : L ≤ 2048) {w : hz_W} {g : hq_H} {i : Nat} (R : hz_RC g w) (M : hm_RM g w) (hi : i + 3 < L) {J : hq_C} (kk : ∀ (g' : hq_H) (w' : hz_W) (v5 v6 v7 v8 : Option hq_V), hz_RC g' w' → hm_RM g' w' → J (hq_ll bs i v5 v6 v7 v8) [] g') (v5 v6 v7 v8 : Option hq_V) : kL_272 bs L xs 16 J (hq_ll bs i v5 v6 v7 v8) [] g := by
  have ok := hz_RC_ok R
  obtain ⟨h1, m1, R1, s1⟩ := t_make 10 g w R (xs (i + 1)) (xs (i + 2)) (xs (i + 3))
  obtain ⟨k, hr, mk, ho⟩ := hL_make 15 (xs (i + 1)) (xs (i + 2)) (xs (i + 3)) g h1 _ m1 (th_make w (xs (i + 1)) (xs (i + 2)) (xs (i + 3)))
  obtain ⟨Rr, Mr⟩ := hz_after ho R1 (hm_far_RM (s1.weak (fun k i z => Or.inl z)) M)
  obtain ⟨h', v, m2, M2, s2, ans⟩ := r_make 11 hr w Mr ok (xs (i + 1)) (xs (i + 2)) (xs (i + 3))
  unfold kL_272
  refine ⟨rfl, i + 1, by omega, by omega, nI_add i 1, ?_⟩
  refine ⟨rfl, i + 2, by omega, by omega, nI_add i 2, ?_⟩
  refine ⟨rfl, i + 3, by omega, by omega, nI_add i 3, ?_⟩
  refine ⟨[.inr (3, 0), hz_i (xs (i + 1)), hz_i (xs (i + 2)), hz_i (xs (i + 3)), .inr (20, 0)], [], rfl, rfl, by decide, _, _, mk, ?_⟩
  refine ⟨rfl, i + 1, by omega, by omega, nI_add i 1, ?_⟩
  refine ⟨rfl, i + 2, by omega, by omega, nI_add i 2, ?_⟩
  refine ⟨rfl, i + 3, by omega, by omega, nI_add i 3, ?_⟩
  refine ⟨_, _, m2, ?_⟩
  exact hz_ti ho ans (s2 20 0 (fun z => absurd z.2 (by decide))).2 (fun a b => kk _ _ _ _ _ _ (hz_far_RC (s2.weak (fun k i z => z.1)) Rr) M2)
theorem cL_352 {bs L : Nat} {xs : Nat → Int32} (hL : L ≤ 2048) {w : hz_W} {g : hq_H} {i : Nat} (R : hz_RC g w) (M : hm_RM g w) (hi : i + 3 < L) {J : hq_C} (kk : ∀ (g' : hq_H) (w' : hz_W) (v5 v6 v7 v8 : Option hq_V), hz_RC g' w' → hm_RM g' w' → J (hq_ll bs i v5 v6 v7 v8) [] g') (v5 v6 v7 v8 : Option hq_V) : kL_352 bs L xs 16 J (hq_ll bs i v5 v6 v7 v8) [] g := by
  have ok := hz_RC_ok R
  obtain ⟨h1, m1, R1, s1⟩ := t_withdraw 10 g w R (xs (i + 1))
  obtain ⟨k, hr, mk, ho⟩ := hL_withdraw 15 (xs (i + 1)) g h1 _ m1 (th_withdraw w (xs (i + 1)))
  obtain ⟨Rr, Mr⟩ := hz_after ho R1 (hm_far_RM (s1.weak (fun k i z => Or.inl z)) M)
  obtain ⟨h', v, m2, M2, s2, ans⟩ := r_withdraw 11 hr w Mr ok (xs (i + 1))
  unfold kL_352
  refine ⟨rfl, i + 1, by omega, by omega, nI_add i 1, ?_⟩
  refine ⟨[.inr (3, 0), hz_i (xs (i + 1)), .inr (20, 0)], [], rfl, rfl, by decide, _, _, mk, ?_⟩
  refine ⟨rfl, i + 1, by omega, by omega, nI_add i 1, ?_⟩
  refine ⟨_, _, m2, ?_⟩
  exact hz_ti ho ans (s2 20 0 (fun z => absurd z.2 (by decide))).2 (fun a b => kk _ _ _ _ _ _ (hz_far_RC (s2.weak (fun k i z => z.1)) Rr) M2)
theorem cL_408 {bs L : Nat} {xs : Nat → Int32} (hL : L ≤ 2048) {w : hz_W} {g : hq_H} {i : Nat} (R : hz_RC g w) (M : hm_RM g w) (hi : i + 3 < L) {J : hq_C} (kk : ∀ (g' : hq_H) (w' : hz_W) (v5 v6 v7 v8 : Option hq_V), hz_RC g' w' → hm_RM g' w' → J (hq_ll bs i v5 v6 v7 v8) [] g') (v5 v6 v7 v8 : Option hq_V) : kL_408 bs L xs 16 J (hq_ll bs i v5 v6 v7 v8) [] g := by
  have ok := hz_RC_ok R
  by_cases c : xs (i + 2) = 0
  · obtain ⟨h1, m1, R1, s1⟩ := t_setStrict 10 g w R (xs (i + 1)) false
    obtain ⟨k, hr, mk, ho⟩ := hL_setStrict 15 (xs (i + 1)) (hz_b false) g h1 _ m1 (th_setStrict ok (xs (i + 1)) false)
    obtain ⟨Rr, Mr⟩ := hz_after ho R1 (hm_far_RM (s1.weak (fun k i z => Or.inl z)) M)
    obtain ⟨h', v, m2, M2, s2, ans⟩ := r_setStrict 11 hr w Mr ok (xs (i + 1)) false
    unfold kL_408
    refine ⟨rfl, i + 1, by omega, by omega, nI_add i 1, ?_⟩
    refine ⟨rfl, i + 2, by omega, by omega, nI_add i 2, ?_⟩
    refine hq_bt c ?_
    refine ⟨[.inr (3, 0), hz_i (xs (i + 1)), hz_i (hz_b false), .inr (20, 0)], [], rfl, rfl, by decide, _, _, mk, ?_⟩
    refine ⟨rfl, i + 1, by omega, by omega, nI_add i 1, ?_⟩
    refine ⟨rfl, i + 2, by omega, by omega, nI_add i 2, ?_⟩
    refine hq_bt c ?_
    refine ⟨_, _, m2, ?_⟩
    exact hz_tz (th_setStrict ok (xs (i + 1)) false) ho ans (s2 20 0 (fun z => absurd z.2 (by decide))).2 (fun a b => kk _ _ _ _ _ _ (hz_far_RC (s2.weak (fun k i z => z.1)) Rr) M2)
  · obtain ⟨h1, m1, R1, s1⟩ := t_setStrict 10 g w R (xs (i + 1)) true
    obtain ⟨k, hr, mk, ho⟩ := hL_setStrict 15 (xs (i + 1)) (hz_b true) g h1 _ m1 (th_setStrict ok (xs (i + 1)) true)
    obtain ⟨Rr, Mr⟩ := hz_after ho R1 (hm_far_RM (s1.weak (fun k i z => Or.inl z)) M)
    obtain ⟨h', v, m2, M2, s2, ans⟩ := r_setStrict 11 hr w Mr ok (xs (i + 1)) true
    unfold kL_408
    refine ⟨rfl, i + 1, by omega, by omega, nI_add i 1, ?_⟩
    refine ⟨rfl, i + 2, by omega, by omega, nI_add i 2, ?_⟩
    refine hq_bf c ?_
    refine ⟨[.inr (3, 0), hz_i (xs (i + 1)), hz_i (hz_b true), .inr (20, 0)], [], rfl, rfl, by decide, _, _, mk, ?_⟩
    refine ⟨rfl, i + 1, by omega, by omega, nI_add i 1, ?_⟩
    refine ⟨rfl, i + 2, by omega, by omega, nI_add i 2, ?_⟩
    refine hq_bf c ?_
    refine ⟨_, _, m2, ?_⟩
    exact hz_tz (th_setStrict ok (xs (i + 1)) true) ho ans (s2 20 0 (fun z => absurd z.2 (by decide))).2 (fun a b => kk _ _ _ _ _ _ (hz_far_RC (s2.weak (fun k i z => z.1)) Rr) M2)
theorem cL_499 {bs L : Nat} {xs : Nat → Int32} (hL : L ≤ 2048) {w : hz_W} {g : hq_H} {i : Nat} (R : hz_RC g w) (M : hm_RM g w) (hi : i + 3 < L) {J : hq_C} (kk : ∀ (g' : hq_H) (w' : hz_W) (v5 v6 v7 v8 : Option hq_V), hz_RC g' w' → hm_RM g' w' → J (hq_ll bs i v5 v6 v7 v8) [] g') (v5 v6 v7 v8 : Option hq_V) : kL_499 bs L xs 16 J (hq_ll bs i v5 v6 v7 v8) [] g := by
  have ok := hz_RC_ok R
  obtain ⟨h1, m1, R1, s1⟩ := t_waive 10 g w R (xs (i + 1)) (xs (i + 2))
  obtain ⟨k, hr, mk, ho⟩ := hL_waive 15 (xs (i + 1)) (xs (i + 2)) g h1 _ m1 (th_waive w (xs (i + 1)) (xs (i + 2)))
  obtain ⟨Rr, Mr⟩ := hz_after ho R1 (hm_far_RM (s1.weak (fun k i z => Or.inl z)) M)
  obtain ⟨h', v, m2, M2, s2, ans⟩ := r_waive 11 hr w Mr ok (xs (i + 1)) (xs (i + 2))
  unfold kL_499
  refine ⟨rfl, i + 1, by omega, by omega, nI_add i 1, ?_⟩
  refine ⟨rfl, i + 2, by omega, by omega, nI_add i 2, ?_⟩
  refine ⟨[.inr (3, 0), hz_i (xs (i + 1)), hz_i (xs (i + 2)), .inr (20, 0)], [], rfl, rfl, by decide, _, _, mk, ?_⟩
  refine ⟨rfl, i + 1, by omega, by omega, nI_add i 1, ?_⟩
  refine ⟨rfl, i + 2, by omega, by omega, nI_add i 2, ?_⟩
  refine ⟨_, _, m2, ?_⟩
  exact hz_ti ho ans (s2 20 0 (fun z => absurd z.2 (by decide))).2 (fun a b => kk _ _ _ _ _ _ (hz_far_RC (s2.weak (fun k i z => z.1)) Rr) M2)
theorem cL_567 {bs L : Nat} {xs : Nat → Int32} (hL : L ≤ 2048) {w : hz_W} {g : hq_H} {i : Nat} (R : hz_RC g w) (M : hm_RM g w) (hi : i + 3 < L) {J : hq_C} (kk : ∀ (g' : hq_H) (w' : hz_W) (v5 v6 v7 v8 : Option hq_V), hz_RC g' w' → hm_RM g' w' → J (hq_ll bs i v5 v6 v7 v8) [] g') (v5 v6 v7 v8 : Option hq_V) : kL_567 bs L xs 16 J (hq_ll bs i v5 v6 v7 v8) [] g := by
  have ok := hz_RC_ok R
  obtain ⟨h1, m1, R1, s1⟩ := t_come 10 g w R (xs (i + 1))
  obtain ⟨k, hr, mk, ho⟩ := hL_come 15 (xs (i + 1)) g h1 _ m1 (th_come w (xs (i + 1)))
  obtain ⟨Rr, Mr⟩ := hz_after ho R1 (hm_far_RM (s1.weak (fun k i z => Or.inl z)) M)
  obtain ⟨h', v, m2, M2, s2, ans⟩ := r_come 10 hr w Mr ok (xs (i + 1))
  unfold kL_567
  refine ⟨rfl, i + 1, by omega, by omega, nI_add i 1, ?_⟩
  refine ⟨[.inr (3, 0), hz_i (xs (i + 1)), .inr (20, 0)], [], rfl, rfl, by decide, _, _, mk, ?_⟩
  refine ⟨rfl, i + 1, by omega, by omega, nI_add i 1, ?_⟩
  refine ⟨_, _, m2, ?_⟩
  exact hz_ti ho ans (s2 20 0 (fun z => absurd z.2 (by decide))).2 (fun a b => kk _ _ _ _ _ _ (hz_far_RC (s2.weak (fun k i z => z.1)) Rr) M2)
theorem cL_623 {bs L : Nat} {xs : Nat → Int32} (hL : L ≤ 2048) {w : hz_W} {g : hq_H} {i : Nat} (R : hz_RC g w) (M : hm_RM g w) (hi : i + 3 < L) {J : hq_C} (kk : ∀ (g' : hq_H) (w' : hz_W) (v5 v6 v7 v8 : Option hq_V), hz_RC g' w' → hm_RM g' w' → J (hq_ll bs i v5 v6 v7 v8) [] g') (v5 v6 v7 v8 : Option hq_V) : kL_623 bs L xs 16 J (hq_ll bs i v5 v6 v7 v8) [] g := by
  have ok := hz_RC_ok R
  obtain ⟨h1, m1, R1, s1⟩ := t_go 10 g w R (xs (i + 1))
  obtain ⟨k, hr, mk, ho⟩ := hL_go 15 (xs (i + 1)) g h1 _ m1 (th_go w (xs (i + 1)))
  obtain ⟨Rr, Mr⟩ := hz_after ho R1 (hm_far_RM (s1.weak (fun k i z => Or.inl z)) M)
  obtain ⟨h', v, m2, M2, s2, ans⟩ := r_go 10 hr w Mr ok (xs (i + 1))
  unfold kL_623
  refine ⟨rfl, i + 1, by omega, by omega, nI_add i 1, ?_⟩
  refine ⟨[.inr (3, 0), hz_i (xs (i + 1)), .inr (20, 0)], [], rfl, rfl, by decide, _, _, mk, ?_⟩
  refine ⟨rfl, i + 1, by omega, by omega, nI_add i 1, ?_⟩
  refine ⟨_, _, m2, ?_⟩
  exact hz_ti ho ans (s2 20 0 (fun z => absurd z.2 (by decide))).2 (fun a b => kk _ _ _ _ _ _ (hz_far_RC (s2.weak (fun k i z => z.1)) Rr) M2)
theorem cL_679 {bs L : Nat} {xs : Nat → Int32} (hL : L ≤ 2048) {w : hz_W} {g : hq_H} {i : Nat} (R : hz_RC g w) (M : hm_RM g w) (hi : i + 3 < L) {J : hq_C} (kk : ∀ (g' : hq_H) (w' : hz_W) (v5 v6 v7 v8 : Option hq_V), hz_RC g' w' → hm_RM g' w' → J (hq_ll bs i v5 v6 v7 v8) [] g') (v5 v6 v7 v8 : Option hq_V) : kL_679 bs L xs 16 J (hq_ll bs i v5 v6 v7 v8) [] g := by
  have ok := hz_RC_ok R
  obtain ⟨h1, m1, R1, s1⟩ := t_pass 10 g w R (xs (i + 1))
  obtain ⟨k, hr, mk, ho⟩ := hL_pass 15 (xs (i + 1)) g h1 _ m1 (th_pass w (xs (i + 1)))
  obtain ⟨Rr, Mr⟩ := hz_after ho R1 (hm_far_RM (s1.weak (fun k i z => Or.inl z)) M)
  obtain ⟨h', v, m2, M2, s2, ans⟩ := r_pass 11 hr w Mr ok (xs (i + 1))
  unfold kL_679
  refine ⟨rfl, i + 1, by omega, by omega, nI_add i 1, ?_⟩
  refine ⟨[.inr (3, 0), hz_i (xs (i + 1)), .inr (20, 0)], [], rfl, rfl, by decide, _, _, mk, ?_⟩
  refine ⟨rfl, i + 1, by omega, by omega, nI_add i 1, ?_⟩
  refine ⟨_, _, m2, ?_⟩
  exact hz_ti ho ans (s2 20 0 (fun z => absurd z.2 (by decide))).2 (fun a b => kk _ _ _ _ _ _ (hz_far_RC (s2.weak (fun k i z => z.1)) Rr) M2)
theorem cL_735 {bs L : Nat} {xs : Nat → Int32} (hL : L ≤ 2048) {w : hz_W} {g : hq_H} {i : Nat} (R : hz_RC g w) (M : hm_RM g w) (hi : i + 3 < L) {J : hq_C} (kk : ∀ (g' : hq_H) (w' : hz_W) (v5 v6 v7 v8 : Option hq_V), hz_RC g' w' → hm_RM g' w' → J (hq_ll bs i v5 v6 v7 v8) [] g') (v5 v6 v7 v8 : Option hq_V) : kL_735 bs L xs 16 J (hq_ll bs i v5 v6 v7 v8) [] g := by
  have ok := hz_RC_ok R
  obtain ⟨h1, m1, R1, s1⟩ := t_append 10 g w R (xs (i + 1))
  obtain ⟨k, hr, mk, ho⟩ := hL_append 15 (xs (i + 1)) g h1 _ m1 (th_append w (xs (i + 1)))
  obtain ⟨Rr, Mr⟩ := hz_after ho R1 (hm_far_RM (s1.weak (fun k i z => Or.inl z)) M)
  obtain ⟨h', v, m2, M2, s2, ans⟩ := r_append 11 hr w Mr ok (xs (i + 1))
  unfold kL_735
  refine ⟨rfl, i + 1, by omega, by omega, nI_add i 1, ?_⟩
  refine ⟨[.inr (3, 0), hz_i (xs (i + 1)), .inr (20, 0)], [], rfl, rfl, by decide, _, _, mk, ?_⟩
  refine ⟨rfl, i + 1, by omega, by omega, nI_add i 1, ?_⟩
  refine ⟨_, _, m2, ?_⟩
  exact hz_ti ho ans (s2 20 0 (fun z => absurd z.2 (by decide))).2 (fun a b => kk _ _ _ _ _ _ (hz_far_RC (s2.weak (fun k i z => z.1)) Rr) M2)
theorem cL_791 {bs L : Nat} {xs : Nat → Int32} (hL : L ≤ 2048) {w : hz_W} {g : hq_H} {i : Nat} (R : hz_RC g w) (M : hm_RM g w) (hi : i + 3 < L) {J : hq_C} (kk : ∀ (g' : hq_H) (w' : hz_W) (v5 v6 v7 v8 : Option hq_V), hz_RC g' w' → hm_RM g' w' → J (hq_ll bs i v5 v6 v7 v8) [] g') (v5 v6 v7 v8 : Option hq_V) : kL_791 bs L xs 16 J (hq_ll bs i v5 v6 v7 v8) [] g := by
  have ok := hz_RC_ok R
  obtain ⟨h1, m1, R1, s1⟩ := t_clearBuffer 11 g w R
  obtain ⟨h', v, m2, M2, s2, t0, ev⟩ := r_clearBuffer 11 h1 w (hm_far_RM (s1.weak (fun k i z => Or.inl z)) M) ok
  have R2 := hz_far_RC (s2.weak (fun k i z => z.1)) R1
  rw [ev] at m2
  unfold kL_791
  exact ⟨_, _, m1, _, _, m2, hq_bt rfl (kk _ _ _ _ _ _ R2 M2)⟩
theorem cL_804 {bs L : Nat} {xs : Nat → Int32} (hL : L ≤ 2048) {w : hz_W} {g : hq_H} {i : Nat} (R : hz_RC g w) (M : hm_RM g w) (hi : i + 3 < L) {J : hq_C} (kk : ∀ (g' : hq_H) (w' : hz_W) (v5 v6 v7 v8 : Option hq_V), hz_RC g' w' → hm_RM g' w' → J (hq_ll bs i v5 v6 v7 v8) [] g') (v5 v6 v7 v8 : Option hq_V) : kL_804 bs L xs 16 J (hq_ll bs i v5 v6 v7 v8) [] g := by
  have ok := hz_RC_ok R
  obtain ⟨h1, m1, R1, s1⟩ := t_firstError 10 g w R
  obtain ⟨h', v, m2, M2, s2, t0, ev⟩ := r_firstError 10 h1 w (hm_far_RM (s1.weak (fun k i z => Or.inl z)) M) ok
  have R2 := hz_far_RC (s2.weak (fun k i z => z.1)) R1
  rw [ev] at m2
  unfold kL_804
  exact ⟨_, _, m1, _, _, m2, hq_bt rfl (kk _ _ _ _ _ _ R2 M2)⟩
theorem cL_817 {bs L : Nat} {xs : Nat → Int32} (hL : L ≤ 2048) {w : hz_W} {g : hq_H} {i : Nat} (R : hz_RC g w) (M : hm_RM g w) (hi : i + 3 < L) {J : hq_C} (kk : ∀ (g' : hq_H) (w' : hz_W) (v5 v6 v7 v8 : Option hq_V), hz_RC g' w' → hm_RM g' w' → J (hq_ll bs i v5 v6 v7 v8) [] g') (v5 v6 v7 v8 : Option hq_V) : kL_817 bs L xs 16 J (hq_ll bs i v5 v6 v7 v8) [] g := by
  have ok := hz_RC_ok R
  obtain ⟨r, r0, h1, m1, R1, s1⟩ := t_runLog 8 g w R
  obtain ⟨k, hr, mk, ho⟩ := hL_runLog 15  g h1 _ m1 (th_runLog w r)
  obtain ⟨Rr, Mr⟩ := hz_after ho R1 (hm_far_RM (s1.weak (fun k i z => Or.inl z)) M)
  obtain ⟨h', v, m2, M2, s2, ans⟩ := r_runLog 10 hr w Mr ok r r0
  unfold kL_817
  refine ⟨[.inr (3, 0), .inr (20, 0)], [], rfl, rfl, by decide, _, _, mk, ?_⟩
  refine ⟨_, _, m2, ?_⟩
  exact hz_ti ho ans (s2 20 0 (fun z => absurd z.2 (by decide))).2 (fun a b => kk _ _ _ _ _ _ (hz_far_RC (s2.weak (fun k i z => z.1)) Rr) M2)
theorem cL_861 {bs L : Nat} {xs : Nat → Int32} (hL : L ≤ 2048) {w : hz_W} {g : hq_H} {i : Nat} (R : hz_RC g w) (M : hm_RM g w) (hi : i + 3 < L) {J : hq_C} (kk : ∀ (g' : hq_H) (w' : hz_W) (v5 v6 v7 v8 : Option hq_V), hz_RC g' w' → hm_RM g' w' → J (hq_ll bs i v5 v6 v7 v8) [] g') (v5 v6 v7 v8 : Option hq_V) : kL_861 bs L xs 16 J (hq_ll bs i v5 v6 v7 v8) [] g := by
  have ok := hz_RC_ok R
  obtain ⟨h1, m1, R1, s1⟩ := t_keep 11 g w R
  obtain ⟨h', v, m2, M2, s2, t0, ev⟩ := r_keep 11 h1 w (hm_far_RM (s1.weak (fun k i z => Or.inl z)) M) ok
  have R2 := hz_far_RC (s2.weak (fun k i z => z.1)) R1
  rw [ev] at m2
  unfold kL_861
  exact ⟨_, _, m1, _, _, m2, hq_bt rfl (kk _ _ _ _ _ _ R2 M2)⟩
theorem cL_874 {bs L : Nat} {xs : Nat → Int32} (hL : L ≤ 2048) {w : hz_W} {g : hq_H} {i : Nat} (R : hz_RC g w) (M : hm_RM g w) (hi : i + 3 < L) {J : hq_C} (kk : ∀ (g' : hq_H) (w' : hz_W) (v5 v6 v7 v8 : Option hq_V), hz_RC g' w' → hm_RM g' w' → J (hq_ll bs i v5 v6 v7 v8) [] g') (v5 v6 v7 v8 : Option hq_V) : kL_874 bs L xs 16 J (hq_ll bs i v5 v6 v7 v8) [] g := by
  have ok := hz_RC_ok R
  obtain ⟨h1, m1, R1, s1⟩ := t_goBack 10 g w R 
  obtain ⟨k, hr, mk, ho⟩ := hL_goBack 15  g h1 _ m1 (th_goBack w )
  obtain ⟨Rr, Mr⟩ := hz_after ho R1 (hm_far_RM (s1.weak (fun k i z => Or.inl z)) M)
  obtain ⟨h', v, m2, M2, s2, ans⟩ := r_goBack 11 hr w Mr ok 
  unfold kL_874
  refine ⟨[.inr (3, 0), .inr (20, 0)], [], rfl, rfl, by decide, _, _, mk, ?_⟩
  refine ⟨_, _, m2, ?_⟩
  exact hz_ti ho ans (s2 20 0 (fun z => absurd z.2 (by decide))).2 (fun a b => kk _ _ _ _ _ _ (hz_far_RC (s2.weak (fun k i z => z.1)) Rr) M2)
theorem cL_918 {bs L : Nat} {xs : Nat → Int32} (hL : L ≤ 2048) {w : hz_W} {g : hq_H} {i : Nat} (R : hz_RC g w) (M : hm_RM g w) (hi : i + 3 < L) {J : hq_C} (kk : ∀ (g' : hq_H) (w' : hz_W) (v5 v6 v7 v8 : Option hq_V), hz_RC g' w' → hm_RM g' w' → J (hq_ll bs i v5 v6 v7 v8) [] g') (v5 v6 v7 v8 : Option hq_V) : kL_918 bs L xs 16 J (hq_ll bs i v5 v6 v7 v8) [] g := by
  have ok := hz_RC_ok R
  obtain ⟨h1, m1, R1, s1⟩ := t_undo 10 g w R 
  obtain ⟨k, hr, mk, ho⟩ := hL_undo 15  g h1 _ m1 (th_undo w )
  obtain ⟨Rr, Mr⟩ := hz_after ho R1 (hm_far_RM (s1.weak (fun k i z => Or.inl z)) M)
  obtain ⟨h', v, m2, M2, s2, ans⟩ := r_undo 11 hr w Mr ok 
  unfold kL_918
  refine ⟨[.inr (3, 0), .inr (20, 0)], [], rfl, rfl, by decide, _, _, mk, ?_⟩
  refine ⟨_, _, m2, ?_⟩
  exact hz_ti ho ans (s2 20 0 (fun z => absurd z.2 (by decide))).2 (fun a b => kk _ _ _ _ _ _ (hz_far_RC (s2.weak (fun k i z => z.1)) Rr) M2)
theorem cL_962 {bs L : Nat} {xs : Nat → Int32} (hL : L ≤ 2048) {w : hz_W} {g : hq_H} {i : Nat} (R : hz_RC g w) (M : hm_RM g w) (hi : i + 3 < L) {J : hq_C} (kk : ∀ (g' : hq_H) (w' : hz_W) (v5 v6 v7 v8 : Option hq_V), hz_RC g' w' → hm_RM g' w' → J (hq_ll bs i v5 v6 v7 v8) [] g') (v5 v6 v7 v8 : Option hq_V) : kL_962 bs L xs 16 J (hq_ll bs i v5 v6 v7 v8) [] g := by
  have ok := hz_RC_ok R
  obtain ⟨h1, m1, R1, s1⟩ := t_rules 11 g w R
  obtain ⟨h', v, m2, M2, s2, t0, ev⟩ := r_rules 7 h1 w (hm_far_RM (s1.weak (fun k i z => Or.inl z)) M) ok
  have R2 := hz_far_RC (s2.weak (fun k i z => z.1)) R1
  rw [ev] at m2
  unfold kL_962
  exact ⟨_, _, m1, _, _, m2, hq_bt rfl (kk _ _ _ _ _ _ R2 M2)⟩
theorem cL_975 {bs L : Nat} {xs : Nat → Int32} (hL : L ≤ 2048) {w : hz_W} {g : hq_H} {i : Nat} (R : hz_RC g w) (M : hm_RM g w) (hi : i + 3 < L) {J : hq_C} (kk : ∀ (g' : hq_H) (w' : hz_W) (v5 v6 v7 v8 : Option hq_V), hz_RC g' w' → hm_RM g' w' → J (hq_ll bs i v5 v6 v7 v8) [] g') (v5 v6 v7 v8 : Option hq_V) : kL_975 bs L xs 16 J (hq_ll bs i v5 v6 v7 v8) [] g := by
  have ok := hz_RC_ok R
  obtain ⟨h1, m1, R1, s1⟩ := t_shouldBeLet 10 g w R (xs (i + 1))
  obtain ⟨k, hr, mk, ho⟩ := hL_shouldBeLet 15 (xs (i + 1)) g h1 _ m1 (th_shouldBeLet w (xs (i + 1)))
  obtain ⟨Rr, Mr⟩ := hz_after ho R1 (hm_far_RM (s1.weak (fun k i z => Or.inl z)) M)
  obtain ⟨h', v, m2, M2, s2, ans⟩ := r_shouldBeLet 10 hr w Mr ok (xs (i + 1))
  unfold kL_975
  refine ⟨rfl, i + 1, by omega, by omega, nI_add i 1, ?_⟩
  refine ⟨[.inr (3, 0), hz_i (xs (i + 1)), .inr (20, 0)], [], rfl, rfl, by decide, _, _, mk, ?_⟩
  refine ⟨rfl, i + 1, by omega, by omega, nI_add i 1, ?_⟩
  refine ⟨_, _, m2, ?_⟩
  exact hz_ti ho ans (s2 20 0 (fun z => absurd z.2 (by decide))).2 (fun a b => kk _ _ _ _ _ _ (hz_far_RC (s2.weak (fun k i z => z.1)) Rr) M2)
theorem cL_1031 {bs L : Nat} {xs : Nat → Int32} (hL : L ≤ 2048) {w : hz_W} {g : hq_H} {i : Nat} (R : hz_RC g w) (M : hm_RM g w) (hi : i + 3 < L) {J : hq_C} (kk : ∀ (g' : hq_H) (w' : hz_W) (v5 v6 v7 v8 : Option hq_V), hz_RC g' w' → hm_RM g' w' → J (hq_ll bs i v5 v6 v7 v8) [] g') (v5 v6 v7 v8 : Option hq_V) : kL_1031 bs L xs 16 J (hq_ll bs i v5 v6 v7 v8) [] g := by
  have ok := hz_RC_ok R
  obtain ⟨h1, m1, R1, s1⟩ := t_shouldBeEmpty 10 g w R (xs (i + 1))
  obtain ⟨k, hr, mk, ho⟩ := hL_shouldBeEmpty 15 (xs (i + 1)) g h1 _ m1 (th_shouldBeEmpty w (xs (i + 1)))
  obtain ⟨Rr, Mr⟩ := hz_after ho R1 (hm_far_RM (s1.weak (fun k i z => Or.inl z)) M)
  obtain ⟨h', v, m2, M2, s2, ans⟩ := r_shouldBeEmpty 10 hr w Mr ok (xs (i + 1))
  unfold kL_1031
  refine ⟨rfl, i + 1, by omega, by omega, nI_add i 1, ?_⟩
  refine ⟨[.inr (3, 0), hz_i (xs (i + 1)), .inr (20, 0)], [], rfl, rfl, by decide, _, _, mk, ?_⟩
  refine ⟨rfl, i + 1, by omega, by omega, nI_add i 1, ?_⟩
  refine ⟨_, _, m2, ?_⟩
  exact hz_ti ho ans (s2 20 0 (fun z => absurd z.2 (by decide))).2 (fun a b => kk _ _ _ _ _ _ (hz_far_RC (s2.weak (fun k i z => z.1)) Rr) M2)
theorem cL_1087 {bs L : Nat} {xs : Nat → Int32} (hL : L ≤ 2048) {w : hz_W} {g : hq_H} {i : Nat} (R : hz_RC g w) (M : hm_RM g w) (hi : i + 3 < L) {J : hq_C} (kk : ∀ (g' : hq_H) (w' : hz_W) (v5 v6 v7 v8 : Option hq_V), hz_RC g' w' → hm_RM g' w' → J (hq_ll bs i v5 v6 v7 v8) [] g') (v5 v6 v7 v8 : Option hq_V) : kL_1087 bs L xs 16 J (hq_ll bs i v5 v6 v7 v8) [] g := by
  have ok := hz_RC_ok R
  obtain ⟨h1, m1, R1, s1⟩ := t_fine 10 g w R (xs (i + 1))
  obtain ⟨k, hr, mk, ho⟩ := hL_fine 15 (xs (i + 1)) g h1 _ m1 (th_fine w (xs (i + 1)))
  obtain ⟨Rr, Mr⟩ := hz_after ho R1 (hm_far_RM (s1.weak (fun k i z => Or.inl z)) M)
  obtain ⟨h', v, m2, M2, s2, ans⟩ := r_fine 10 hr w Mr ok (xs (i + 1))
  unfold kL_1087
  refine ⟨rfl, i + 1, by omega, by omega, nI_add i 1, ?_⟩
  refine ⟨[.inr (3, 0), hz_i (xs (i + 1)), .inr (20, 0)], [], rfl, rfl, by decide, _, _, mk, ?_⟩
  refine ⟨rfl, i + 1, by omega, by omega, nI_add i 1, ?_⟩
  refine ⟨_, _, m2, ?_⟩
  exact hz_ti ho ans (s2 20 0 (fun z => absurd z.2 (by decide))).2 (fun a b => kk _ _ _ _ _ _ (hz_far_RC (s2.weak (fun k i z => z.1)) Rr) M2)
theorem cL_1143 {bs L : Nat} {xs : Nat → Int32} (hL : L ≤ 2048) {w : hz_W} {g : hq_H} {i : Nat} (R : hz_RC g w) (M : hm_RM g w) (hi : i + 3 < L) {J : hq_C} (kk : ∀ (g' : hq_H) (w' : hz_W) (v5 v6 v7 v8 : Option hq_V), hz_RC g' w' → hm_RM g' w' → J (hq_ll bs i v5 v6 v7 v8) [] g') (v5 v6 v7 v8 : Option hq_V) : kL_1143 bs L xs 16 J (hq_ll bs i v5 v6 v7 v8) [] g := by
  have ok := hz_RC_ok R
  obtain ⟨h1, m1, R1, s1⟩ := t_isStrict 10 g w R (xs (i + 1))
  obtain ⟨k, hr, mk, ho⟩ := hL_isStrict 15 (xs (i + 1)) g h1 _ m1 (th_attr3 ok (xs (i + 1)))
  obtain ⟨Rr, Mr⟩ := hz_after ho R1 (hm_far_RM (s1.weak (fun k i z => Or.inl z)) M)
  obtain ⟨h', v, m2, M2, s2, ans⟩ := r_isStrict 10 hr w Mr ok (xs (i + 1))
  unfold kL_1143
  refine ⟨rfl, i + 1, by omega, by omega, nI_add i 1, ?_⟩
  refine ⟨[.inr (3, 0), hz_i (xs (i + 1)), .inr (20, 0)], [], rfl, rfl, by decide, _, _, mk, ?_⟩
  refine ⟨rfl, i + 1, by omega, by omega, nI_add i 1, ?_⟩
  refine ⟨_, _, m2, ?_⟩
  exact hz_tz (th_attr3 ok (xs (i + 1))) ho ans (s2 20 0 (fun z => absurd z.2 (by decide))).2 (fun a b => kk _ _ _ _ _ _ (hz_far_RC (s2.weak (fun k i z => z.1)) Rr) M2)
theorem cL_1206 {bs L : Nat} {xs : Nat → Int32} (hL : L ≤ 2048) {w : hz_W} {g : hq_H} {i : Nat} (R : hz_RC g w) (M : hm_RM g w) (hi : i + 3 < L) {J : hq_C} (kk : ∀ (g' : hq_H) (w' : hz_W) (v5 v6 v7 v8 : Option hq_V), hz_RC g' w' → hm_RM g' w' → J (hq_ll bs i v5 v6 v7 v8) [] g') (v5 v6 v7 v8 : Option hq_V) : kL_1206 bs L xs 16 J (hq_ll bs i v5 v6 v7 v8) [] g := by
  have ok := hz_RC_ok R
  obtain ⟨h1, m1, R1, s1⟩ := t_waivedFor 10 g w R (xs (i + 1))
  obtain ⟨k, hr, mk, ho⟩ := hL_waivedFor 15 (xs (i + 1)) g h1 _ m1 (th_waivedFor w (xs (i + 1)))
  obtain ⟨Rr, Mr⟩ := hz_after ho R1 (hm_far_RM (s1.weak (fun k i z => Or.inl z)) M)
  obtain ⟨h', v, m2, M2, s2, ans⟩ := r_waivedFor 11 hr w Mr ok (xs (i + 1))
  unfold kL_1206
  refine ⟨rfl, i + 1, by omega, by omega, nI_add i 1, ?_⟩
  refine ⟨[.inr (3, 0), hz_i (xs (i + 1)), .inr (20, 0)], [], rfl, rfl, by decide, _, _, mk, ?_⟩
  refine ⟨rfl, i + 1, by omega, by omega, nI_add i 1, ?_⟩
  refine ⟨_, _, m2, ?_⟩
  exact hz_ti ho ans (s2 20 0 (fun z => absurd z.2 (by decide))).2 (fun a b => kk _ _ _ _ _ _ (hz_far_RC (s2.weak (fun k i z => z.1)) Rr) M2)
theorem cL_1262 {bs L : Nat} {xs : Nat → Int32} (hL : L ≤ 2048) {w : hz_W} {g : hq_H} {i : Nat} (R : hz_RC g w) (M : hm_RM g w) (hi : i + 3 < L) {J : hq_C} (kk : ∀ (g' : hq_H) (w' : hz_W) (v5 v6 v7 v8 : Option hq_V), hz_RC g' w' → hm_RM g' w' → J (hq_ll bs i v5 v6 v7 v8) [] g') (v5 v6 v7 v8 : Option hq_V) : kL_1262 bs L xs 16 J (hq_ll bs i v5 v6 v7 v8) [] g := by
  have ok := hz_RC_ok R
  obtain ⟨h1, m1, R1, s1⟩ := t_holdsIn 10 g w R (xs (i + 1)) (xs (i + 2))
  obtain ⟨k, hr, mk, ho⟩ := hL_holdsIn 15 (xs (i + 1)) (xs (i + 2)) g h1 _ m1 (th_holdsIn w (xs (i + 1)) (xs (i + 2)))
  obtain ⟨Rr, Mr⟩ := hz_after ho R1 (hm_far_RM (s1.weak (fun k i z => Or.inl z)) M)
  obtain ⟨h', v, m2, M2, s2, ans⟩ := r_holdsIn 11 hr w Mr ok (xs (i + 1)) (xs (i + 2))
  unfold kL_1262
  refine ⟨rfl, i + 1, by omega, by omega, nI_add i 1, ?_⟩
  refine ⟨rfl, i + 2, by omega, by omega, nI_add i 2, ?_⟩
  refine ⟨[.inr (3, 0), hz_i (xs (i + 1)), hz_i (xs (i + 2)), .inr (20, 0)], [], rfl, rfl, by decide, _, _, mk, ?_⟩
  refine ⟨rfl, i + 1, by omega, by omega, nI_add i 1, ?_⟩
  refine ⟨rfl, i + 2, by omega, by omega, nI_add i 2, ?_⟩
  refine ⟨_, _, m2, ?_⟩
  exact hz_tz (th_holdsIn w (xs (i + 1)) (xs (i + 2))) ho ans (s2 20 0 (fun z => absurd z.2 (by decide))).2 (fun a b => kk _ _ _ _ _ _ (hz_far_RC (s2.weak (fun k i z => z.1)) Rr) M2)
theorem cL_1337 {bs L : Nat} {xs : Nat → Int32} (hL : L ≤ 2048) {w : hz_W} {g : hq_H} {i : Nat} (R : hz_RC g w) (M : hm_RM g w) (hi : i + 3 < L) {J : hq_C} (kk : ∀ (g' : hq_H) (w' : hz_W) (v5 v6 v7 v8 : Option hq_V), hz_RC g' w' → hm_RM g' w' → J (hq_ll bs i v5 v6 v7 v8) [] g') (v5 v6 v7 v8 : Option hq_V) : kL_1337 bs L xs 16 J (hq_ll bs i v5 v6 v7 v8) [] g := by
  have ok := hz_RC_ok R
  obtain ⟨h1, m1, R1, s1⟩ := t_way 11 g w R
  obtain ⟨h', v, m2, M2, s2, t0, ev⟩ := r_way 7 h1 w (hm_far_RM (s1.weak (fun k i z => Or.inl z)) M) ok
  have R2 := hz_far_RC (s2.weak (fun k i z => z.1)) R1
  rw [ev] at m2
  unfold kL_1337
  exact ⟨_, _, m1, _, _, m2, hq_bt rfl (kk _ _ _ _ _ _ R2 M2)⟩
theorem cL_1350 {bs L : Nat} {xs : Nat → Int32} (hL : L ≤ 2048) {w : hz_W} {g : hq_H} {i : Nat} (R : hz_RC g w) (M : hm_RM g w) (hi : i + 3 < L) {J : hq_C} (kk : ∀ (g' : hq_H) (w' : hz_W) (v5 v6 v7 v8 : Option hq_V), hz_RC g' w' → hm_RM g' w' → J (hq_ll bs i v5 v6 v7 v8) [] g') (v5 v6 v7 v8 : Option hq_V) : kL_1350 bs L xs 16 J (hq_ll bs i v5 v6 v7 v8) [] g := by
  have ok := hz_RC_ok R
  obtain ⟨h1, m1, R1, s1⟩ := t_day 11 g w R
  obtain ⟨h', v, m2, M2, s2, t0, ev⟩ := r_day 7 h1 w (hm_far_RM (s1.weak (fun k i z => Or.inl z)) M) ok
  have R2 := hz_far_RC (s2.weak (fun k i z => z.1)) R1
  rw [ev] at m2
  unfold kL_1350
  exact ⟨_, _, m1, _, _, m2, hq_bt rfl (kk _ _ _ _ _ _ R2 M2)⟩
theorem cL_1363 {bs L : Nat} {xs : Nat → Int32} (hL : L ≤ 2048) {w : hz_W} {g : hq_H} {i : Nat} (R : hz_RC g w) (M : hm_RM g w) (hi : i + 3 < L) {J : hq_C} (kk : ∀ (g' : hq_H) (w' : hz_W) (v5 v6 v7 v8 : Option hq_V), hz_RC g' w' → hm_RM g' w' → J (hq_ll bs i v5 v6 v7 v8) [] g') (v5 v6 v7 v8 : Option hq_V) : kL_1363 bs L xs 16 J (hq_ll bs i v5 v6 v7 v8) [] g := by
  have ok := hz_RC_ok R
  obtain ⟨h1, m1, R1, s1⟩ := t_inForce 11 g w R
  obtain ⟨h', v, m2, M2, s2, t0, ev⟩ := r_inForce 7 h1 w (hm_far_RM (s1.weak (fun k i z => Or.inl z)) M) ok
  have R2 := hz_far_RC (s2.weak (fun k i z => z.1)) R1
  rw [ev] at m2
  unfold kL_1363
  exact ⟨_, _, m1, _, _, m2, hq_bt rfl (kk _ _ _ _ _ _ R2 M2)⟩
theorem cL_1376 {bs L : Nat} {xs : Nat → Int32} (hL : L ≤ 2048) {w : hz_W} {g : hq_H} {i : Nat} (R : hz_RC g w) (M : hm_RM g w) (hi : i + 3 < L) {J : hq_C} (kk : ∀ (g' : hq_H) (w' : hz_W) (v5 v6 v7 v8 : Option hq_V), hz_RC g' w' → hm_RM g' w' → J (hq_ll bs i v5 v6 v7 v8) [] g') (v5 v6 v7 v8 : Option hq_V) : kL_1376 bs L xs 16 J (hq_ll bs i v5 v6 v7 v8) [] g := by
  have ok := hz_RC_ok R
  obtain ⟨h1, m1, R1, s1⟩ := t_broken 11 g w R
  obtain ⟨h', v, m2, M2, s2, t0, ev⟩ := r_broken 7 h1 w (hm_far_RM (s1.weak (fun k i z => Or.inl z)) M) ok
  have R2 := hz_far_RC (s2.weak (fun k i z => z.1)) R1
  rw [ev] at m2
  unfold kL_1376
  exact ⟨_, _, m1, _, _, m2, hq_bt rfl (kk _ _ _ _ _ _ R2 M2)⟩
theorem cL_1389 {bs L : Nat} {xs : Nat → Int32} (hL : L ≤ 2048) {w : hz_W} {g : hq_H} {i : Nat} (R : hz_RC g w) (M : hm_RM g w) (hi : i + 3 < L) {J : hq_C} (kk : ∀ (g' : hq_H) (w' : hz_W) (v5 v6 v7 v8 : Option hq_V), hz_RC g' w' → hm_RM g' w' → J (hq_ll bs i v5 v6 v7 v8) [] g') (v5 v6 v7 v8 : Option hq_V) : kL_1389 bs L xs 16 J (hq_ll bs i v5 v6 v7 v8) [] g := by
  have ok := hz_RC_ok R
  obtain ⟨h1, m1, R1, s1⟩ := t_refusedBy 10 g w R (xs (i + 1))
  obtain ⟨k, hr, mk, ho⟩ := hL_refusedBy 15 (xs (i + 1)) g h1 _ m1 (th_refusedBy w (xs (i + 1)))
  obtain ⟨Rr, Mr⟩ := hz_after ho R1 (hm_far_RM (s1.weak (fun k i z => Or.inl z)) M)
  obtain ⟨h', v, m2, M2, s2, ans⟩ := r_refusedBy 11 hr w Mr ok (xs (i + 1))
  unfold kL_1389
  refine ⟨rfl, i + 1, by omega, by omega, nI_add i 1, ?_⟩
  refine ⟨[.inr (3, 0), hz_i (xs (i + 1)), .inr (20, 0)], [], rfl, rfl, by decide, _, _, mk, ?_⟩
  refine ⟨rfl, i + 1, by omega, by omega, nI_add i 1, ?_⟩
  refine ⟨_, _, m2, ?_⟩
  exact hz_ti ho ans (s2 20 0 (fun z => absurd z.2 (by decide))).2 (fun a b => kk _ _ _ _ _ _ (hz_far_RC (s2.weak (fun k i z => z.1)) Rr) M2)
theorem cL_1445 {bs L : Nat} {xs : Nat → Int32} (hL : L ≤ 2048) {w : hz_W} {g : hq_H} {i : Nat} (R : hz_RC g w) (M : hm_RM g w) (hi : i + 3 < L) {J : hq_C} (kk : ∀ (g' : hq_H) (w' : hz_W) (v5 v6 v7 v8 : Option hq_V), hz_RC g' w' → hm_RM g' w' → J (hq_ll bs i v5 v6 v7 v8) [] g') (v5 v6 v7 v8 : Option hq_V) : kL_1445 bs L xs 16 J (hq_ll bs i v5 v6 v7 v8) [] g := by
  have ok := hz_RC_ok R
  obtain ⟨h1, m1, R1, s1⟩ := t_finesOf 10 g w R (xs (i + 1))
  obtain ⟨k, hr, mk, ho⟩ := hL_finesOf 15 (xs (i + 1)) g h1 _ m1 (th_finesOf w (xs (i + 1)))
  obtain ⟨Rr, Mr⟩ := hz_after ho R1 (hm_far_RM (s1.weak (fun k i z => Or.inl z)) M)
  obtain ⟨h', v, m2, M2, s2, ans⟩ := r_finesOf 10 hr w Mr ok (xs (i + 1))
  unfold kL_1445
  refine ⟨rfl, i + 1, by omega, by omega, nI_add i 1, ?_⟩
  refine ⟨[.inr (3, 0), hz_i (xs (i + 1)), .inr (20, 0)], [], rfl, rfl, by decide, _, _, mk, ?_⟩
  refine ⟨rfl, i + 1, by omega, by omega, nI_add i 1, ?_⟩
  refine ⟨_, _, m2, ?_⟩
  exact hz_ti ho ans (s2 20 0 (fun z => absurd z.2 (by decide))).2 (fun a b => kk _ _ _ _ _ _ (hz_far_RC (s2.weak (fun k i z => z.1)) Rr) M2)
theorem cL_1501 {bs L : Nat} {xs : Nat → Int32} (hL : L ≤ 2048) {w : hz_W} {g : hq_H} {i : Nat} (R : hz_RC g w) (M : hm_RM g w) (hi : i + 3 < L) {J : hq_C} (kk : ∀ (g' : hq_H) (w' : hz_W) (v5 v6 v7 v8 : Option hq_V), hz_RC g' w' → hm_RM g' w' → J (hq_ll bs i v5 v6 v7 v8) [] g') (v5 v6 v7 v8 : Option hq_V) : kL_1501 bs L xs 16 J (hq_ll bs i v5 v6 v7 v8) [] g := by
  have ok := hz_RC_ok R
  obtain ⟨h1, m1, R1, s1⟩ := t_fines 11 g w R
  obtain ⟨h', v, m2, M2, s2, t0, ev⟩ := r_fines 7 h1 w (hm_far_RM (s1.weak (fun k i z => Or.inl z)) M) ok
  have R2 := hz_far_RC (s2.weak (fun k i z => z.1)) R1
  rw [ev] at m2
  unfold kL_1501
  exact ⟨_, _, m1, _, _, m2, hq_bt rfl (kk _ _ _ _ _ _ R2 M2)⟩
theorem cL_1514 {bs L : Nat} {xs : Nat → Int32} (hL : L ≤ 2048) {w : hz_W} {g : hq_H} {i : Nat} (R : hz_RC g w) (M : hm_RM g w) (hi : i + 3 < L) {J : hq_C} (kk : ∀ (g' : hq_H) (w' : hz_W) (v5 v6 v7 v8 : Option hq_V), hz_RC g' w' → hm_RM g' w' → J (hq_ll bs i v5 v6 v7 v8) [] g') (v5 v6 v7 v8 : Option hq_V) : kL_1514 bs L xs 16 J (hq_ll bs i v5 v6 v7 v8) [] g := by
  have ok := hz_RC_ok R
  obtain ⟨h1, m1, R1, s1⟩ := t_finesByRules 11 g w R
  obtain ⟨h', v, m2, M2, s2, t0, ev⟩ := r_finesByRules 7 h1 w (hm_far_RM (s1.weak (fun k i z => Or.inl z)) M) ok
  have R2 := hz_far_RC (s2.weak (fun k i z => z.1)) R1
  rw [ev] at m2
  unfold kL_1514
  exact ⟨_, _, m1, _, _, m2, hq_bt rfl (kk _ _ _ _ _ _ R2 M2)⟩
theorem cL_1527 {bs L : Nat} {xs : Nat → Int32} (hL : L ≤ 2048) {w : hz_W} {g : hq_H} {i : Nat} (R : hz_RC g w) (M : hm_RM g w) (hi : i + 3 < L) {J : hq_C} (kk : ∀ (g' : hq_H) (w' : hz_W) (v5 v6 v7 v8 : Option hq_V), hz_RC g' w' → hm_RM g' w' → J (hq_ll bs i v5 v6 v7 v8) [] g') (v5 v6 v7 v8 : Option hq_V) : kL_1527 bs L xs 16 J (hq_ll bs i v5 v6 v7 v8) [] g := by
  have ok := hz_RC_ok R
  obtain ⟨h1, m1, R1, s1⟩ := t_canStand 10 g w R (xs (i + 1))
  obtain ⟨k, hr, mk, ho⟩ := hL_canStand 15 (xs (i + 1)) g h1 _ m1 (th_canStand w (xs (i + 1)))
  obtain ⟨Rr, Mr⟩ := hz_after ho R1 (hm_far_RM (s1.weak (fun k i z => Or.inl z)) M)
  obtain ⟨h', v, m2, M2, s2, ans⟩ := r_canStand 11 hr w Mr ok (xs (i + 1))
  unfold kL_1527
  refine ⟨rfl, i + 1, by omega, by omega, nI_add i 1, ?_⟩
  refine ⟨[.inr (3, 0), hz_i (xs (i + 1)), .inr (20, 0)], [], rfl, rfl, by decide, _, _, mk, ?_⟩
  refine ⟨rfl, i + 1, by omega, by omega, nI_add i 1, ?_⟩
  refine ⟨_, _, m2, ?_⟩
  exact hz_tz (th_canStand w (xs (i + 1))) ho ans (s2 20 0 (fun z => absurd z.2 (by decide))).2 (fun a b => kk _ _ _ _ _ _ (hz_far_RC (s2.weak (fun k i z => z.1)) Rr) M2)
theorem cL_1590 {bs L : Nat} {xs : Nat → Int32} (hL : L ≤ 2048) {w : hz_W} {g : hq_H} {i : Nat} (R : hz_RC g w) (M : hm_RM g w) (hi : i + 3 < L) {J : hq_C} (kk : ∀ (g' : hq_H) (w' : hz_W) (v5 v6 v7 v8 : Option hq_V), hz_RC g' w' → hm_RM g' w' → J (hq_ll bs i v5 v6 v7 v8) [] g') (v5 v6 v7 v8 : Option hq_V) : kL_1590 bs L xs 16 J (hq_ll bs i v5 v6 v7 v8) [] g := by
  have ok := hz_RC_ok R
  obtain ⟨h1, m1, R1, s1⟩ := t_canStandBySplitting 5 g w R (xs (i + 1))
  obtain ⟨k, hr, mk, ho⟩ := hL_canStandBySplitting 15 (xs (i + 1)) g h1 _ m1 (th_canStandBySplitting w (xs (i + 1)))
  obtain ⟨Rr, Mr⟩ := hz_after ho R1 (hm_far_RM (s1.weak (fun k i z => Or.inl z)) M)
  obtain ⟨h', v, m2, M2, s2, ans⟩ := r_canStandBySplitting 11 hr w Mr ok (xs (i + 1))
  unfold kL_1590
  refine ⟨rfl, i + 1, by omega, by omega, nI_add i 1, ?_⟩
  refine ⟨[.inr (3, 0), hz_i (xs (i + 1)), .inr (20, 0)], [], rfl, rfl, by decide, _, _, mk, ?_⟩
  refine ⟨rfl, i + 1, by omega, by omega, nI_add i 1, ?_⟩
  refine ⟨_, _, m2, ?_⟩
  exact hz_tz (th_canStandBySplitting w (xs (i + 1))) ho ans (s2 20 0 (fun z => absurd z.2 (by decide))).2 (fun a b => kk _ _ _ _ _ _ (hz_far_RC (s2.weak (fun k i z => z.1)) Rr) M2)
theorem cL_1653 {bs L : Nat} {xs : Nat → Int32} (hL : L ≤ 2048) {w : hz_W} {g : hq_H} {i : Nat} (R : hz_RC g w) (M : hm_RM g w) (hi : i + 3 < L) {J : hq_C} (kk : ∀ (g' : hq_H) (w' : hz_W) (v5 v6 v7 v8 : Option hq_V), hz_RC g' w' → hm_RM g' w' → J (hq_ll bs i v5 v6 v7 v8) [] g') (v5 v6 v7 v8 : Option hq_V) : kL_1653 bs L xs 16 J (hq_ll bs i v5 v6 v7 v8) [] g := by
  have ok := hz_RC_ok R
  obtain ⟨h1, m1, R1, s1⟩ := t_canStandByJoining 10 g w R (xs (i + 1))
  obtain ⟨k, hr, mk, ho⟩ := hL_canStandByJoining 15 (xs (i + 1)) g h1 _ m1 (th_canStandByJoining w (xs (i + 1)))
  obtain ⟨Rr, Mr⟩ := hz_after ho R1 (hm_far_RM (s1.weak (fun k i z => Or.inl z)) M)
  obtain ⟨h', v, m2, M2, s2, ans⟩ := r_canStandByJoining 11 hr w Mr ok (xs (i + 1))
  unfold kL_1653
  refine ⟨rfl, i + 1, by omega, by omega, nI_add i 1, ?_⟩
  refine ⟨[.inr (3, 0), hz_i (xs (i + 1)), .inr (20, 0)], [], rfl, rfl, by decide, _, _, mk, ?_⟩
  refine ⟨rfl, i + 1, by omega, by omega, nI_add i 1, ?_⟩
  refine ⟨_, _, m2, ?_⟩
  exact hz_tz (th_canStandByJoining w (xs (i + 1))) ho ans (s2 20 0 (fun z => absurd z.2 (by decide))).2 (fun a b => kk _ _ _ _ _ _ (hz_far_RC (s2.weak (fun k i z => z.1)) Rr) M2)
theorem cL_1716 {bs L : Nat} {xs : Nat → Int32} (hL : L ≤ 2048) {w : hz_W} {g : hq_H} {i : Nat} (R : hz_RC g w) (M : hm_RM g w) (hi : i + 3 < L) {J : hq_C} (kk : ∀ (g' : hq_H) (w' : hz_W) (v5 v6 v7 v8 : Option hq_V), hz_RC g' w' → hm_RM g' w' → J (hq_ll bs i v5 v6 v7 v8) [] g') (v5 v6 v7 v8 : Option hq_V) : kL_1716 bs L xs 16 J (hq_ll bs i v5 v6 v7 v8) [] g := by
  have ok := hz_RC_ok R
  obtain ⟨h1, m1, R1, s1⟩ := t_joined 10 g w R (xs (i + 1))
  obtain ⟨k, hr, mk, ho⟩ := hL_joined 15 (xs (i + 1)) g h1 _ m1 (th_joined w (xs (i + 1)))
  obtain ⟨Rr, Mr⟩ := hz_after ho R1 (hm_far_RM (s1.weak (fun k i z => Or.inl z)) M)
  obtain ⟨h', v, m2, M2, s2, ans⟩ := r_joined 11 hr w Mr ok (xs (i + 1))
  unfold kL_1716
  refine ⟨rfl, i + 1, by omega, by omega, nI_add i 1, ?_⟩
  refine ⟨[.inr (3, 0), hz_i (xs (i + 1)), .inr (20, 0)], [], rfl, rfl, by decide, _, _, mk, ?_⟩
  refine ⟨rfl, i + 1, by omega, by omega, nI_add i 1, ?_⟩
  refine ⟨_, _, m2, ?_⟩
  exact hz_ti ho ans (s2 20 0 (fun z => absurd z.2 (by decide))).2 (fun a b => kk _ _ _ _ _ _ (hz_far_RC (s2.weak (fun k i z => z.1)) Rr) M2)
theorem cL_1772 {bs L : Nat} {xs : Nat → Int32} (hL : L ≤ 2048) {w : hz_W} {g : hq_H} {i : Nat} (R : hz_RC g w) (M : hm_RM g w) (hi : i + 3 < L) {J : hq_C} (kk : ∀ (g' : hq_H) (w' : hz_W) (v5 v6 v7 v8 : Option hq_V), hz_RC g' w' → hm_RM g' w' → J (hq_ll bs i v5 v6 v7 v8) [] g') (v5 v6 v7 v8 : Option hq_V) : kL_1772 bs L xs 16 J (hq_ll bs i v5 v6 v7 v8) [] g := by
  have ok := hz_RC_ok R
  obtain ⟨h1, m1, R1, s1⟩ := t_ways 11 g w R
  obtain ⟨h', v, m2, M2, s2, t0, ev⟩ := r_ways 7 h1 w (hm_far_RM (s1.weak (fun k i z => Or.inl z)) M) ok
  have R2 := hz_far_RC (s2.weak (fun k i z => z.1)) R1
  rw [ev] at m2
  unfold kL_1772
  exact ⟨_, _, m1, _, _, m2, hq_bt rfl (kk _ _ _ _ _ _ R2 M2)⟩
theorem cL_1785 {bs L : Nat} {xs : Nat → Int32} (hL : L ≤ 2048) {w : hz_W} {g : hq_H} {i : Nat} (R : hz_RC g w) (M : hm_RM g w) (hi : i + 3 < L) {J : hq_C} (kk : ∀ (g' : hq_H) (w' : hz_W) (v5 v6 v7 v8 : Option hq_V), hz_RC g' w' → hm_RM g' w' → J (hq_ll bs i v5 v6 v7 v8) [] g') (v5 v6 v7 v8 : Option hq_V) : kL_1785 bs L xs 16 J (hq_ll bs i v5 v6 v7 v8) [] g := by
  have ok := hz_RC_ok R
  obtain ⟨h1, m1, R1, s1⟩ := t_waysBySplitting 6 g w R
  obtain ⟨h', v, m2, M2, s2, t0, ev⟩ := r_waysBySplitting 7 h1 w (hm_far_RM (s1.weak (fun k i z => Or.inl z)) M) ok
  have R2 := hz_far_RC (s2.weak (fun k i z => z.1)) R1
  rw [ev] at m2
  unfold kL_1785
  exact ⟨_, _, m1, _, _, m2, hq_bt rfl (kk _ _ _ _ _ _ R2 M2)⟩
theorem cL_1798 {bs L : Nat} {xs : Nat → Int32} (hL : L ≤ 2048) {w : hz_W} {g : hq_H} {i : Nat} (R : hz_RC g w) (M : hm_RM g w) (hi : i + 3 < L) {J : hq_C} (kk : ∀ (g' : hq_H) (w' : hz_W) (v5 v6 v7 v8 : Option hq_V), hz_RC g' w' → hm_RM g' w' → J (hq_ll bs i v5 v6 v7 v8) [] g') (v5 v6 v7 v8 : Option hq_V) : kL_1798 bs L xs 16 J (hq_ll bs i v5 v6 v7 v8) [] g := by
  have ok := hz_RC_ok R
  obtain ⟨h1, m1, R1, s1⟩ := t_firstWay 11 g w R
  obtain ⟨h', v, m2, M2, s2, t0, ev⟩ := r_firstWay 7 h1 w (hm_far_RM (s1.weak (fun k i z => Or.inl z)) M) ok
  have R2 := hz_far_RC (s2.weak (fun k i z => z.1)) R1
  rw [ev] at m2
  unfold kL_1798
  exact ⟨_, _, m1, _, _, m2, hq_bt rfl (kk _ _ _ _ _ _ R2 M2)⟩
theorem cL_1811 {bs L : Nat} {xs : Nat → Int32} (hL : L ≤ 2048) {w : hz_W} {g : hq_H} {i : Nat} (R : hz_RC g w) (M : hm_RM g w) (hi : i + 3 < L) {J : hq_C} (kk : ∀ (g' : hq_H) (w' : hz_W) (v5 v6 v7 v8 : Option hq_V), hz_RC g' w' → hm_RM g' w' → J (hq_ll bs i v5 v6 v7 v8) [] g') (v5 v6 v7 v8 : Option hq_V) : kL_1811 bs L xs 16 J (hq_ll bs i v5 v6 v7 v8) [] g := by
  have ok := hz_RC_ok R
  obtain ⟨h1, m1, R1, s1⟩ := t_forced 10 g w R (xs (i + 1))
  obtain ⟨k, hr, mk, ho⟩ := hL_forced 15 (xs (i + 1)) g h1 _ m1 (th_forced w (xs (i + 1)))
  obtain ⟨Rr, Mr⟩ := hz_after ho R1 (hm_far_RM (s1.weak (fun k i z => Or.inl z)) M)
  obtain ⟨h', v, m2, M2, s2, ans⟩ := r_forced 10 hr w Mr ok (xs (i + 1))
  unfold kL_1811
  refine ⟨rfl, i + 1, by omega, by omega, nI_add i 1, ?_⟩
  refine ⟨[.inr (3, 0), hz_i (xs (i + 1)), .inr (20, 0)], [], rfl, rfl, by decide, _, _, mk, ?_⟩
  refine ⟨rfl, i + 1, by omega, by omega, nI_add i 1, ?_⟩
  refine ⟨_, _, m2, ?_⟩
  exact hz_ti ho ans (s2 20 0 (fun z => absurd z.2 (by decide))).2 (fun a b => kk _ _ _ _ _ _ (hz_far_RC (s2.weak (fun k i z => z.1)) Rr) M2)
theorem cL_1867 {bs L : Nat} {xs : Nat → Int32} (hL : L ≤ 2048) {w : hz_W} {g : hq_H} {i : Nat} (R : hz_RC g w) (M : hm_RM g w) (hi : i + 3 < L) {J : hq_C} (kk : ∀ (g' : hq_H) (w' : hz_W) (v5 v6 v7 v8 : Option hq_V), hz_RC g' w' → hm_RM g' w' → J (hq_ll bs i v5 v6 v7 v8) [] g') (v5 v6 v7 v8 : Option hq_V) : kL_1867 bs L xs 16 J (hq_ll bs i v5 v6 v7 v8) [] g := by
  have ok := hz_RC_ok R
  obtain ⟨h1, m1, R1, s1⟩ := t_follows 10 g w R (xs (i + 1))
  obtain ⟨k, hr, mk, ho⟩ := hL_follows 15 (xs (i + 1)) g h1 _ m1 (th_follows w (xs (i + 1)))
  obtain ⟨Rr, Mr⟩ := hz_after ho R1 (hm_far_RM (s1.weak (fun k i z => Or.inl z)) M)
  obtain ⟨h', v, m2, M2, s2, ans⟩ := r_follows 11 hr w Mr ok (xs (i + 1))
  unfold kL_1867
  refine ⟨rfl, i + 1, by omega, by omega, nI_add i 1, ?_⟩
  refine ⟨[.inr (3, 0), hz_i (xs (i + 1)), .inr (20, 0)], [], rfl, rfl, by decide, _, _, mk, ?_⟩
  refine ⟨rfl, i + 1, by omega, by omega, nI_add i 1, ?_⟩
  refine ⟨_, _, m2, ?_⟩
  exact hz_tz (th_follows w (xs (i + 1))) ho ans (s2 20 0 (fun z => absurd z.2 (by decide))).2 (fun a b => kk _ _ _ _ _ _ (hz_far_RC (s2.weak (fun k i z => z.1)) Rr) M2)
theorem cL_1930 {bs L : Nat} {xs : Nat → Int32} (hL : L ≤ 2048) {w : hz_W} {g : hq_H} {i : Nat} (R : hz_RC g w) (M : hm_RM g w) (hi : i + 3 < L) {J : hq_C} (kk : ∀ (g' : hq_H) (w' : hz_W) (v5 v6 v7 v8 : Option hq_V), hz_RC g' w' → hm_RM g' w' → J (hq_ll bs i v5 v6 v7 v8) [] g') (v5 v6 v7 v8 : Option hq_V) : kL_1930 bs L xs 16 J (hq_ll bs i v5 v6 v7 v8) [] g := by
  have ok := hz_RC_ok R
  obtain ⟨h1, m1, R1, s1⟩ := t_followsBySplitting 4 g w R (xs (i + 1))
  obtain ⟨k, hr, mk, ho⟩ := hL_followsBySplitting 15 (xs (i + 1)) g h1 _ m1 (th_followsBySplitting w (xs (i + 1)))
  obtain ⟨Rr, Mr⟩ := hz_after ho R1 (hm_far_RM (s1.weak (fun k i z => Or.inl z)) M)
  obtain ⟨h', v, m2, M2, s2, ans⟩ := r_followsBySplitting 11 hr w Mr ok (xs (i + 1))
  unfold kL_1930
  refine ⟨rfl, i + 1, by omega, by omega, nI_add i 1, ?_⟩
  refine ⟨[.inr (3, 0), hz_i (xs (i + 1)), .inr (20, 0)], [], rfl, rfl, by decide, _, _, mk, ?_⟩
  refine ⟨rfl, i + 1, by omega, by omega, nI_add i 1, ?_⟩
  refine ⟨_, _, m2, ?_⟩
  exact hz_tz (th_followsBySplitting w (xs (i + 1))) ho ans (s2 20 0 (fun z => absurd z.2 (by decide))).2 (fun a b => kk _ _ _ _ _ _ (hz_far_RC (s2.weak (fun k i z => z.1)) Rr) M2)
theorem cL_1993 {bs L : Nat} {xs : Nat → Int32} (hL : L ≤ 2048) {w : hz_W} {g : hq_H} {i : Nat} (R : hz_RC g w) (M : hm_RM g w) (hi : i + 3 < L) {J : hq_C} (kk : ∀ (g' : hq_H) (w' : hz_W) (v5 v6 v7 v8 : Option hq_V), hz_RC g' w' → hm_RM g' w' → J (hq_ll bs i v5 v6 v7 v8) [] g') (v5 v6 v7 v8 : Option hq_V) : kL_1993 bs L xs 16 J (hq_ll bs i v5 v6 v7 v8) [] g := by
  have ok := hz_RC_ok R
  obtain ⟨h1, m1, R1, s1⟩ := t_smallestClash 11 g w R
  obtain ⟨h', v, m2, M2, s2, t0, ev⟩ := r_smallestClash 7 h1 w (hm_far_RM (s1.weak (fun k i z => Or.inl z)) M) ok
  have R2 := hz_far_RC (s2.weak (fun k i z => z.1)) R1
  rw [ev] at m2
  unfold kL_1993
  exact ⟨_, _, m1, _, _, m2, hq_bt rfl (kk _ _ _ _ _ _ R2 M2)⟩
theorem cL_2006 {bs L : Nat} {xs : Nat → Int32} (hL : L ≤ 2048) {w : hz_W} {g : hq_H} {i : Nat} (R : hz_RC g w) (M : hm_RM g w) (hi : i + 3 < L) {J : hq_C} (kk : ∀ (g' : hq_H) (w' : hz_W) (v5 v6 v7 v8 : Option hq_V), hz_RC g' w' → hm_RM g' w' → J (hq_ll bs i v5 v6 v7 v8) [] g') (v5 v6 v7 v8 : Option hq_V) : kL_2006 bs L xs 16 J (hq_ll bs i v5 v6 v7 v8) [] g := by
  have ok := hz_RC_ok R
  obtain ⟨h1, m1, R1, s1⟩ := t_smallestClashByWays 3 g w R
  obtain ⟨h', v, m2, M2, s2, t0, ev⟩ := r_smallestClashByWays 7 h1 w (hm_far_RM (s1.weak (fun k i z => Or.inl z)) M) ok
  have R2 := hz_far_RC (s2.weak (fun k i z => z.1)) R1
  rw [ev] at m2
  unfold kL_2006
  exact ⟨_, _, m1, _, _, m2, hq_bt rfl (kk _ _ _ _ _ _ R2 M2)⟩
theorem cL_2019 {bs L : Nat} {xs : Nat → Int32} (hL : L ≤ 2048) {w : hz_W} {g : hq_H} {i : Nat} (R : hz_RC g w) (M : hm_RM g w) (hi : i + 3 < L) {J : hq_C} (kk : ∀ (g' : hq_H) (w' : hz_W) (v5 v6 v7 v8 : Option hq_V), hz_RC g' w' → hm_RM g' w' → J (hq_ll bs i v5 v6 v7 v8) [] g') (v5 v6 v7 v8 : Option hq_V) : kL_2019 bs L xs 16 J (hq_ll bs i v5 v6 v7 v8) [] g := by
  have ok := hz_RC_ok R
  obtain ⟨h1, m1, R1, s1⟩ := t_narrowedClash 11 g w R
  obtain ⟨h', v, m2, M2, s2, t0, ev⟩ := r_narrowedClash 7 h1 w (hm_far_RM (s1.weak (fun k i z => Or.inl z)) M) ok
  have R2 := hz_far_RC (s2.weak (fun k i z => z.1)) R1
  rw [ev] at m2
  unfold kL_2019
  exact ⟨_, _, m1, _, _, m2, hq_bt rfl (kk _ _ _ _ _ _ R2 M2)⟩
theorem cL_2032 {bs L : Nat} {xs : Nat → Int32} (hL : L ≤ 2048) {w : hz_W} {g : hq_H} {i : Nat} (R : hz_RC g w) (M : hm_RM g w) (hi : i + 3 < L) {J : hq_C} (kk : ∀ (g' : hq_H) (w' : hz_W) (v5 v6 v7 v8 : Option hq_V), hz_RC g' w' → hm_RM g' w' → J (hq_ll bs i v5 v6 v7 v8) [] g') (v5 v6 v7 v8 : Option hq_V) : kL_2032 bs L xs 16 J (hq_ll bs i v5 v6 v7 v8) [] g := by
  have ok := hz_RC_ok R
  obtain ⟨h1, m1, R1, s1⟩ := t_narrowClashes 11 g w R
  obtain ⟨h', v, m2, M2, s2, t0, ev⟩ := r_narrowClashes 7 h1 w (hm_far_RM (s1.weak (fun k i z => Or.inl z)) M) ok
  have R2 := hz_far_RC (s2.weak (fun k i z => z.1)) R1
  rw [ev] at m2
  unfold kL_2032
  exact ⟨_, _, m1, _, _, m2, hq_bt rfl (kk _ _ _ _ _ _ R2 M2)⟩
theorem cL_2045 {bs L : Nat} {xs : Nat → Int32} (hL : L ≤ 2048) {w : hz_W} {g : hq_H} {i : Nat} (R : hz_RC g w) (M : hm_RM g w) (hi : i + 3 < L) {J : hq_C} (kk : ∀ (g' : hq_H) (w' : hz_W) (v5 v6 v7 v8 : Option hq_V), hz_RC g' w' → hm_RM g' w' → J (hq_ll bs i v5 v6 v7 v8) [] g') (v5 v6 v7 v8 : Option hq_V) : kL_2045 bs L xs 16 J (hq_ll bs i v5 v6 v7 v8) [] g := by
  have ok := hz_RC_ok R
  obtain ⟨h1, m1, R1, s1⟩ := t_fewestWaivers 11 g w R
  obtain ⟨h', v, m2, M2, s2, t0, ev⟩ := r_fewestWaivers 7 h1 w (hm_far_RM (s1.weak (fun k i z => Or.inl z)) M) ok
  have R2 := hz_far_RC (s2.weak (fun k i z => z.1)) R1
  rw [ev] at m2
  unfold kL_2045
  exact ⟨_, _, m1, _, _, m2, hq_bt rfl (kk _ _ _ _ _ _ R2 M2)⟩
theorem cL_2058 {bs L : Nat} {xs : Nat → Int32} (hL : L ≤ 2048) {w : hz_W} {g : hq_H} {i : Nat} (R : hz_RC g w) (M : hm_RM g w) (hi : i + 3 < L) {J : hq_C} (kk : ∀ (g' : hq_H) (w' : hz_W) (v5 v6 v7 v8 : Option hq_V), hz_RC g' w' → hm_RM g' w' → J (hq_ll bs i v5 v6 v7 v8) [] g') (v5 v6 v7 v8 : Option hq_V) : kL_2058 bs L xs 16 J (hq_ll bs i v5 v6 v7 v8) [] g := by
  have ok := hz_RC_ok R
  obtain ⟨h1, m1, R1, s1⟩ := t_fewestWaiversBySets 11 g w R
  obtain ⟨h', v, m2, M2, s2, t0, ev⟩ := r_fewestWaiversBySets 7 h1 w (hm_far_RM (s1.weak (fun k i z => Or.inl z)) M) ok
  have R2 := hz_far_RC (s2.weak (fun k i z => z.1)) R1
  rw [ev] at m2
  unfold kL_2058
  exact ⟨_, _, m1, _, _, m2, hq_bt rfl (kk _ _ _ _ _ _ R2 M2)⟩
theorem cL_2071 {bs L : Nat} {xs : Nat → Int32} (hL : L ≤ 2048) {w : hz_W} {g : hq_H} {i : Nat} (R : hz_RC g w) (M : hm_RM g w) (hi : i + 3 < L) {J : hq_C} (kk : ∀ (g' : hq_H) (w' : hz_W) (v5 v6 v7 v8 : Option hq_V), hz_RC g' w' → hm_RM g' w' → J (hq_ll bs i v5 v6 v7 v8) [] g') (v5 v6 v7 v8 : Option hq_V) : kL_2071 bs L xs 16 J (hq_ll bs i v5 v6 v7 v8) [] g := by
  have ok := hz_RC_ok R
  obtain ⟨h1, m1, R1, s1⟩ := t_turnsToPeace 11 g w R
  obtain ⟨h', v, m2, M2, s2, t0, ev⟩ := r_turnsToPeace 7 h1 w (hm_far_RM (s1.weak (fun k i z => Or.inl z)) M) ok
  have R2 := hz_far_RC (s2.weak (fun k i z => z.1)) R1
  rw [ev] at m2
  unfold kL_2071
  exact ⟨_, _, m1, _, _, m2, hq_bt rfl (kk _ _ _ _ _ _ R2 M2)⟩
theorem cL_2084 {bs L : Nat} {xs : Nat → Int32} (hL : L ≤ 2048) {w : hz_W} {g : hq_H} {i : Nat} (R : hz_RC g w) (M : hm_RM g w) (hi : i + 3 < L) {J : hq_C} (kk : ∀ (g' : hq_H) (w' : hz_W) (v5 v6 v7 v8 : Option hq_V), hz_RC g' w' → hm_RM g' w' → J (hq_ll bs i v5 v6 v7 v8) [] g') (v5 v6 v7 v8 : Option hq_V) : kL_2084 bs L xs 16 J (hq_ll bs i v5 v6 v7 v8) [] g := by
  have ok := hz_RC_ok R
  obtain ⟨h1, m1, R1, s1⟩ := t_turnsToPeaceByGoing 11 g w R
  obtain ⟨h', v, m2, M2, s2, t0, ev⟩ := r_turnsToPeaceByGoing 7 h1 w (hm_far_RM (s1.weak (fun k i z => Or.inl z)) M) ok
  have R2 := hz_far_RC (s2.weak (fun k i z => z.1)) R1
  rw [ev] at m2
  unfold kL_2084
  exact ⟨_, _, m1, _, _, m2, hq_bt rfl (kk _ _ _ _ _ _ R2 M2)⟩
theorem cL_2097 {bs L : Nat} {xs : Nat → Int32} (hL : L ≤ 2048) {w : hz_W} {g : hq_H} {i : Nat} (R : hz_RC g w) (M : hm_RM g w) (hi : i + 3 < L) {J : hq_C} (kk : ∀ (g' : hq_H) (w' : hz_W) (v5 v6 v7 v8 : Option hq_V), hz_RC g' w' → hm_RM g' w' → J (hq_ll bs i v5 v6 v7 v8) [] g') (v5 v6 v7 v8 : Option hq_V) : kL_2097 bs L xs 16 J (hq_ll bs i v5 v6 v7 v8) [] g := by
  have ok := hz_RC_ok R
  obtain ⟨h1, m1, R1, s1⟩ := t_nightNow 11 g w R
  obtain ⟨h', v, m2, M2, s2, t0, ev⟩ := r_nightNow 7 h1 w (hm_far_RM (s1.weak (fun k i z => Or.inl z)) M) ok
  have R2 := hz_far_RC (s2.weak (fun k i z => z.1)) R1
  rw [ev] at m2
  unfold kL_2097
  exact ⟨_, _, m1, _, _, m2, hq_bt rfl (kk _ _ _ _ _ _ R2 M2)⟩
theorem cL_2110 {bs L : Nat} {xs : Nat → Int32} (hL : L ≤ 2048) {w : hz_W} {g : hq_H} {i : Nat} (R : hz_RC g w) (M : hm_RM g w) (hi : i + 3 < L) {J : hq_C} (kk : ∀ (g' : hq_H) (w' : hz_W) (v5 v6 v7 v8 : Option hq_V), hz_RC g' w' → hm_RM g' w' → J (hq_ll bs i v5 v6 v7 v8) [] g') (v5 v6 v7 v8 : Option hq_V) : kL_2110 bs L xs 16 J (hq_ll bs i v5 v6 v7 v8) [] g := by
  have ok := hz_RC_ok R
  obtain ⟨h1, m1, R1, s1⟩ := t_cheapestWay 11 g w R
  obtain ⟨h', v, m2, M2, s2, t0, ev⟩ := r_cheapestWay 7 h1 w (hm_far_RM (s1.weak (fun k i z => Or.inl z)) M) ok
  have R2 := hz_far_RC (s2.weak (fun k i z => z.1)) R1
  rw [ev] at m2
  unfold kL_2110
  exact ⟨_, _, m1, _, _, m2, hq_bt rfl (kk _ _ _ _ _ _ R2 M2)⟩
theorem cL_2123 {bs L : Nat} {xs : Nat → Int32} (hL : L ≤ 2048) {w : hz_W} {g : hq_H} {i : Nat} (R : hz_RC g w) (M : hm_RM g w) (hi : i + 3 < L) {J : hq_C} (kk : ∀ (g' : hq_H) (w' : hz_W) (v5 v6 v7 v8 : Option hq_V), hz_RC g' w' → hm_RM g' w' → J (hq_ll bs i v5 v6 v7 v8) [] g') (v5 v6 v7 v8 : Option hq_V) : kL_2123 bs L xs 16 J (hq_ll bs i v5 v6 v7 v8) [] g := by
  have ok := hz_RC_ok R
  obtain ⟨h1, m1, R1, s1⟩ := t_cheapestNight 6 g w R
  obtain ⟨h', v, m2, M2, s2, t0, ev⟩ := r_cheapestNight 7 h1 w (hm_far_RM (s1.weak (fun k i z => Or.inl z)) M) ok
  have R2 := hz_far_RC (s2.weak (fun k i z => z.1)) R1
  rw [ev] at m2
  unfold kL_2123
  exact ⟨_, _, m1, _, _, m2, hq_bt rfl (kk _ _ _ _ _ _ R2 M2)⟩
theorem cL_2136 {bs L : Nat} {xs : Nat → Int32} (hL : L ≤ 2048) {w : hz_W} {g : hq_H} {i : Nat} (R : hz_RC g w) (M : hm_RM g w) (hi : i + 3 < L) {J : hq_C} (kk : ∀ (g' : hq_H) (w' : hz_W) (v5 v6 v7 v8 : Option hq_V), hz_RC g' w' → hm_RM g' w' → J (hq_ll bs i v5 v6 v7 v8) [] g') (v5 v6 v7 v8 : Option hq_V) : kL_2136 bs L xs 16 J (hq_ll bs i v5 v6 v7 v8) [] g := by
  have ok := hz_RC_ok R
  obtain ⟨h1, m1, R1, s1⟩ := t_bestTurn 11 g w R
  obtain ⟨h', v, m2, M2, s2, t0, ev⟩ := r_bestTurn 7 h1 w (hm_far_RM (s1.weak (fun k i z => Or.inl z)) M) ok
  have R2 := hz_far_RC (s2.weak (fun k i z => z.1)) R1
  rw [ev] at m2
  unfold kL_2136
  exact ⟨_, _, m1, _, _, m2, hq_bt rfl (kk _ _ _ _ _ _ R2 M2)⟩
theorem cL_2149 {bs L : Nat} {xs : Nat → Int32} (hL : L ≤ 2048) {w : hz_W} {g : hq_H} {i : Nat} (R : hz_RC g w) (M : hm_RM g w) (hi : i + 3 < L) {J : hq_C} (kk : ∀ (g' : hq_H) (w' : hz_W) (v5 v6 v7 v8 : Option hq_V), hz_RC g' w' → hm_RM g' w' → J (hq_ll bs i v5 v6 v7 v8) [] g') (v5 v6 v7 v8 : Option hq_V) : kL_2149 bs L xs 16 J (hq_ll bs i v5 v6 v7 v8) [] g := by
  have ok := hz_RC_ok R
  obtain ⟨h1, m1, R1, s1⟩ := t_finesIn 10 g w R (xs (i + 1))
  obtain ⟨k, hr, mk, ho⟩ := hL_finesIn 15 (xs (i + 1)) g h1 _ m1 (th_finesIn w (xs (i + 1)))
  obtain ⟨Rr, Mr⟩ := hz_after ho R1 (hm_far_RM (s1.weak (fun k i z => Or.inl z)) M)
  obtain ⟨h', v, m2, M2, s2, ans⟩ := r_finesIn 11 hr w Mr ok (xs (i + 1))
  unfold kL_2149
  refine ⟨rfl, i + 1, by omega, by omega, nI_add i 1, ?_⟩
  refine ⟨[.inr (3, 0), hz_i (xs (i + 1)), .inr (20, 0)], [], rfl, rfl, by decide, _, _, mk, ?_⟩
  refine ⟨rfl, i + 1, by omega, by omega, nI_add i 1, ?_⟩
  refine ⟨_, _, m2, ?_⟩
  exact hz_ti ho ans (s2 20 0 (fun z => absurd z.2 (by decide))).2 (fun a b => kk _ _ _ _ _ _ (hz_far_RC (s2.weak (fun k i z => z.1)) Rr) M2)
theorem cL_2205 {bs L : Nat} {xs : Nat → Int32} (hL : L ≤ 2048) {w : hz_W} {g : hq_H} {i : Nat} (R : hz_RC g w) (M : hm_RM g w) (hi : i + 3 < L) {J : hq_C} (kk : ∀ (g' : hq_H) (w' : hz_W) (v5 v6 v7 v8 : Option hq_V), hz_RC g' w' → hm_RM g' w' → J (hq_ll bs i v5 v6 v7 v8) [] g') (v5 v6 v7 v8 : Option hq_V) : kL_2205 bs L xs 16 J (hq_ll bs i v5 v6 v7 v8) [] g := by
  have ok := hz_RC_ok R
  obtain ⟨h1, m1, R1, s1⟩ := t_peaceShare 11 g w R
  obtain ⟨h', v, m2, M2, s2, t0, ev⟩ := r_peaceShare 7 h1 w (hm_far_RM (s1.weak (fun k i z => Or.inl z)) M) ok
  have R2 := hz_far_RC (s2.weak (fun k i z => z.1)) R1
  rw [ev] at m2
  unfold kL_2205
  refine ⟨_, _, m1, _, _, m2, ?_⟩
  refine hq_bc (fun z => kk _ _ _ _ _ _ R2 M2) (fun z => ?_)
  exact hq_bf z (hq_nt z (kk _ _ _ _ _ _ R2 M2))
theorem cL_2246 {bs L : Nat} {xs : Nat → Int32} (hL : L ≤ 2048) {w : hz_W} {g : hq_H} {i : Nat} (R : hz_RC g w) (M : hm_RM g w) (hi : i + 3 < L) {J : hq_C} (kk : ∀ (g' : hq_H) (w' : hz_W) (v5 v6 v7 v8 : Option hq_V), hz_RC g' w' → hm_RM g' w' → J (hq_ll bs i v5 v6 v7 v8) [] g') (v5 v6 v7 v8 : Option hq_V) : kL_2246 bs L xs 16 J (hq_ll bs i v5 v6 v7 v8) [] g := by
  have ok := hz_RC_ok R
  obtain ⟨h1, m1, R1, s1⟩ := t_meanFine 11 g w R
  obtain ⟨h', v, m2, M2, s2, t0, ev⟩ := r_meanFine 7 h1 w (hm_far_RM (s1.weak (fun k i z => Or.inl z)) M) ok
  have R2 := hz_far_RC (s2.weak (fun k i z => z.1)) R1
  rw [ev] at m2
  unfold kL_2246
  have nn := hz_f2d_mean ok.1
  refine ⟨_, _, m1, nn, ?_⟩
  refine ⟨_, _, m2, nn, ?_⟩
  refine hq_bc (fun z => kk _ _ _ _ _ _ R2 M2) (fun z => ?_)
  exact hq_bf z (hq_nt z (kk _ _ _ _ _ _ R2 M2))
theorem cL_2289 {bs L : Nat} {xs : Nat → Int32} (hL : L ≤ 2048) {w : hz_W} {g : hq_H} {i : Nat} (R : hz_RC g w) (M : hm_RM g w) (hi : i + 3 < L) {J : hq_C} (kk : ∀ (g' : hq_H) (w' : hz_W) (v5 v6 v7 v8 : Option hq_V), hz_RC g' w' → hm_RM g' w' → J (hq_ll bs i v5 v6 v7 v8) [] g') (v5 v6 v7 v8 : Option hq_V) : kL_2289 bs L xs 16 J (hq_ll bs i v5 v6 v7 v8) [] g := by
  have ok := hz_RC_ok R
  obtain ⟨h1, m1, R1, s1⟩ := t_digest 1 g w R
  obtain ⟨h', v, m2, M2, s2, t0, ev⟩ := r_digest 1 h1 w (hm_far_RM (s1.weak (fun k i z => Or.inl z)) M) ok
  have R2 := hz_far_RC (s2.weak (fun k i z => z.1)) R1
  rw [ev] at m2
  unfold kL_2289
  exact ⟨_, _, m1, _, _, m2, hq_bt (lg_cmp_s _) (kk _ _ _ _ _ _ R2 M2)⟩
