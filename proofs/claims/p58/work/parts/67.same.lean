-- ===== the looks that change nothing (printed by wip/gen/same58.py out of the proofs of t_..) =====
theorem s_rules (d : Nat) (h : hq_H) (w : hz_W) (H : hz_RC h w) : hq_Met (d + 5) MX6_rules [.inr (3, 0)] h (hz_o (nI w.1.1)) h := by
  refine inX6_rules (d + 4) 0 h _ _ (fun _ => trivial) (fun J b0 => b0 _ _ _ ?_)
  exact ⟨hz_ri (H.1.1).symm, rfl⟩
theorem s_way (d : Nat) (h : hq_H) (w : hz_W) (H : hz_RC h w) : hq_Met (d + 5) MX6_way [.inr (3, 0)] h (hz_o (w.1.2.2.1)) h := by
  refine inX6_way (d + 4) 0 h _ _ (fun _ => trivial) (fun J b0 => b0 _ _ _ ?_)
  exact ⟨hz_ri (H.1.2.1).symm, rfl⟩
theorem s_day (d : Nat) (h : hq_H) (w : hz_W) (H : hz_RC h w) : hq_Met (d + 5) MX6_day [.inr (3, 0)] h (hz_o (w.1.2.2.2.1)) h := by
  refine inX6_day (d + 4) 0 h _ _ (fun _ => trivial) (fun J b0 => b0 _ _ _ ?_)
  exact ⟨hz_ri (H.1.2.2.1).symm, rfl⟩
theorem s_fines (d : Nat) (h : hq_H) (w : hz_W) (H : hz_RC h w) : hq_Met (d + 5) MX6_fines [.inr (3, 0)] h (hz_o (w.1.2.2.2.2.1)) h := by
  refine inX6_fines (d + 4) 0 h _ _ (fun _ => trivial) (fun J b0 => b0 _ _ _ ?_)
  exact ⟨hz_ri (H.1.2.2.2.1).symm, rfl⟩
theorem s_shouldBeLet (d : Nat) (h : hq_H) (w : hz_W) (H : hz_RC h w) (x : Int32) : hq_Met (d + 5) MX6_shouldBeLet [.inr (3, 0), hz_i x] h (sp_attr w x 0).1 h := by
  have n10 := H.2.1.1
  unfold sp_attr
  cases hx : hz_ix x w.1.1 with
  | none =>
    refine (inX6_shouldBeLet (d + 4) 0 x h _ _ (fun _ => trivial) (fun J b0 => b0 _ _ _ ?_))
    exact Or.inr ⟨_, x_X6_requireRule_n (d + 3) w.1.1 x h hx H.1.1, rfl⟩
  | some k =>
    obtain ⟨rfl, hk⟩ := hz_ix_s (by omega) hx
    refine (inX6_shouldBeLet (d + 4) 0 _ h _ _ (fun _ => trivial) (fun J b0 => b0 _ _ _ ?_))
    refine Or.inl ⟨_, x_X6_requireRule_y (d + 3) k w.1.1 h hk n10 H.1.1, ?_⟩
    refine ⟨_, _, x_X0_at (d + 3) 0 (show k < 10 by omega) h, ?_⟩
    have e : h.1 1 (11 * 0 + k) 0 = w.1.2.1 k 0 := (H.1.2.2.2.2.2 k hk).1 0 (by decide)
    exact ⟨hz_ri e.symm, rfl⟩
theorem s_shouldBeEmpty (d : Nat) (h : hq_H) (w : hz_W) (H : hz_RC h w) (x : Int32) : hq_Met (d + 5) MX6_shouldBeEmpty [.inr (3, 0), hz_i x] h (sp_attr w x 1).1 h := by
  have n10 := H.2.1.1
  unfold sp_attr
  cases hx : hz_ix x w.1.1 with
  | none =>
    refine (inX6_shouldBeEmpty (d + 4) 0 x h _ _ (fun _ => trivial) (fun J b0 => b0 _ _ _ ?_))
    exact Or.inr ⟨_, x_X6_requireRule_n (d + 3) w.1.1 x h hx H.1.1, rfl⟩
  | some k =>
    obtain ⟨rfl, hk⟩ := hz_ix_s (by omega) hx
    refine (inX6_shouldBeEmpty (d + 4) 0 _ h _ _ (fun _ => trivial) (fun J b0 => b0 _ _ _ ?_))
    refine Or.inl ⟨_, x_X6_requireRule_y (d + 3) k w.1.1 h hk n10 H.1.1, ?_⟩
    refine ⟨_, _, x_X0_at (d + 3) 0 (show k < 10 by omega) h, ?_⟩
    have e : h.1 1 (11 * 0 + k) 1 = w.1.2.1 k 1 := (H.1.2.2.2.2.2 k hk).1 1 (by decide)
    exact ⟨hz_ri e.symm, rfl⟩
theorem s_fine (d : Nat) (h : hq_H) (w : hz_W) (H : hz_RC h w) (x : Int32) : hq_Met (d + 5) MX6_fine [.inr (3, 0), hz_i x] h (sp_attr w x 2).1 h := by
  have n10 := H.2.1.1
  unfold sp_attr
  cases hx : hz_ix x w.1.1 with
  | none =>
    refine (inX6_fine (d + 4) 0 x h _ _ (fun _ => trivial) (fun J b0 => b0 _ _ _ ?_))
    exact Or.inr ⟨_, x_X6_requireRule_n (d + 3) w.1.1 x h hx H.1.1, rfl⟩
  | some k =>
    obtain ⟨rfl, hk⟩ := hz_ix_s (by omega) hx
    refine (inX6_fine (d + 4) 0 _ h _ _ (fun _ => trivial) (fun J b0 => b0 _ _ _ ?_))
    refine Or.inl ⟨_, x_X6_requireRule_y (d + 3) k w.1.1 h hk n10 H.1.1, ?_⟩
    refine ⟨_, _, x_X0_at (d + 3) 0 (show k < 10 by omega) h, ?_⟩
    have e : h.1 1 (11 * 0 + k) 2 = w.1.2.1 k 2 := (H.1.2.2.2.2.2 k hk).1 2 (by decide)
    exact ⟨hz_ri e.symm, rfl⟩
theorem s_isStrict (d : Nat) (h : hq_H) (w : hz_W) (H : hz_RC h w) (x : Int32) : hq_Met (d + 5) MX6_isStrict [.inr (3, 0), hz_i x] h (sp_attr w x 3).1 h := by
  have n10 := H.2.1.1
  unfold sp_attr
  cases hx : hz_ix x w.1.1 with
  | none =>
    refine (inX6_isStrict (d + 4) 0 x h _ _ (fun _ => trivial) (fun J b0 => b0 _ _ _ ?_))
    exact Or.inr ⟨_, x_X6_requireRule_n (d + 3) w.1.1 x h hx H.1.1, rfl⟩
  | some k =>
    obtain ⟨rfl, hk⟩ := hz_ix_s (by omega) hx
    refine (inX6_isStrict (d + 4) 0 _ h _ _ (fun _ => trivial) (fun J b0 => b0 _ _ _ ?_))
    refine Or.inl ⟨_, x_X6_requireRule_y (d + 3) k w.1.1 h hk n10 H.1.1, ?_⟩
    refine ⟨_, _, x_X0_at (d + 3) 0 (show k < 10 by omega) h, ?_⟩
    have e : h.1 1 (11 * 0 + k) 3 = w.1.2.1 k 3 := (H.1.2.2.2.2.2 k hk).1 3 (by decide)
    exact ⟨by rw [show h.1 1 (1, 11 * 0 + k).2 3 = w.1.2.1 k 3 from e]; exact H.2.1.s k hk, hz_ri e.symm, rfl⟩
theorem s_finesOf (d : Nat) (h : hq_H) (w : hz_W) (H : hz_RC h w) (x : Int32) : hq_Met (d + 5) MX6_finesOf [.inr (3, 0), hz_i x] h (sp_attr w x 5).1 h := by
  have n10 := H.2.1.1
  unfold sp_attr
  cases hx : hz_ix x w.1.1 with
  | none =>
    refine (inX6_finesOf (d + 4) 0 x h _ _ (fun _ => trivial) (fun J b0 => b0 _ _ _ ?_))
    exact Or.inr ⟨_, x_X6_requireRule_n (d + 3) w.1.1 x h hx H.1.1, rfl⟩
  | some k =>
    obtain ⟨rfl, hk⟩ := hz_ix_s (by omega) hx
    refine (inX6_finesOf (d + 4) 0 _ h _ _ (fun _ => trivial) (fun J b0 => b0 _ _ _ ?_))
    refine Or.inl ⟨_, x_X6_requireRule_y (d + 3) k w.1.1 h hk n10 H.1.1, ?_⟩
    refine ⟨_, _, x_X0_at (d + 3) 0 (show k < 10 by omega) h, ?_⟩
    have e : h.1 1 (11 * 0 + k) 5 = w.1.2.1 k 5 := (H.1.2.2.2.2.2 k hk).1 5 (by decide)
    exact ⟨hz_ri e.symm, rfl⟩
theorem s_waivedFor (d : Nat) (h : hq_H) (w : hz_W) (H : hz_RC h w) (x : Int32) : hq_Met (d + 5) MX6_waivedFor [.inr (3, 0), hz_i x] h (sp_waivedFor w x).1 h := by
  have n10 := H.2.1.1
  unfold sp_waivedFor
  cases hx : hz_ix x w.1.1 with
  | none =>
    refine (inX6_waivedFor (d + 4) 0 x h _ _ (fun _ => trivial) (fun J b0 => b0 _ _ _ ?_))
    exact Or.inr ⟨_, x_X6_requireRule_n (d + 3) w.1.1 x h hx H.1.1, rfl⟩
  | some k =>
    obtain ⟨rfl, hk⟩ := hz_ix_s (by omega) hx
    refine (inX6_waivedFor (d + 4) 0 _ h _ _ (fun _ => trivial) (fun J b0 => b0 _ _ _ ?_))
    refine Or.inl ⟨_, x_X6_requireRule_y (d + 3) k w.1.1 h hk n10 H.1.1, ?_⟩
    have m := x_X0_daysWaived (d + 2) 0 k h (by omega)
    rw [H.1.2.2.1, (H.1.2.2.2.2.2 k hk).1 4 (by decide)] at m
    exact ⟨_, _, m, rfl, rfl⟩
theorem s_holdsIn (d : Nat) (h : hq_H) (w : hz_W) (H : hz_RC h w) (x y : Int32) : hq_Met (d + 5) MX6_holdsIn [.inr (3, 0), hz_i x, hz_i y] h (sp_holdsIn w x y).1 h := by
  have n10 := H.2.1.1
  unfold sp_holdsIn
  cases hx : hz_ix x w.1.1 with
  | none =>
    refine (inX6_holdsIn (d + 4) 0 x y h _ _ (fun _ => trivial) (fun J b0 b15 => b0 _ _ _ ?_))
    exact Or.inr ⟨_, x_X6_requireRule_n (d + 3) w.1.1 x h hx H.1.1, rfl⟩
  | some k =>
    obtain ⟨rfl, hk⟩ := hz_ix_s (by omega) hx
    dsimp only
    cases hy : hz_ix y 64 with
    | none =>
      refine (inX6_holdsIn (d + 4) 0 _ y h _ _ (fun _ => trivial) (fun J b0 b15 => b0 _ _ _ ?_))
      refine Or.inl ⟨_, x_X6_requireRule_y (d + 3) k w.1.1 h hk n10 H.1.1, ?_⟩
      exact hq_bc (fun _ => b15 _ _ _ ⟨rfl, rfl⟩) (fun c1 => hq_bf (fun c2 => hz_ix_n hy ⟨Int32.not_lt.mp c1, c2⟩) (b15 _ _ _ ⟨rfl, rfl⟩))
    | some q =>
      obtain ⟨rfl, hq⟩ := hz_ix_s (by omega) hy
      refine (inX6_holdsIn (d + 4) 0 _ _ h _ _ (fun _ => trivial) (fun J b0 b15 => b0 _ _ _ ?_))
      refine Or.inl ⟨_, x_X6_requireRule_y (d + 3) k w.1.1 h hk n10 H.1.1, ?_⟩
      refine hq_bf (nI_pos (by omega)) (hq_bt (hz_lt (b := 64) rfl rfl hq (by omega)) ?_)
      have e := (H.1.2.2.2.2.2 k hk).1
      refine ⟨_, _, x_X0_at (d + 3) 0 (show k < 10 by omega) h, ?_⟩
      refine ⟨_, _, x_hold (d + 3) (11 * 0 + k) (nI q) _ _ h (e 0 (by decide)) (e 1 (by decide)), ?_⟩
      exact ⟨hz_bz _, rfl, rfl⟩
theorem s_inForce (d : Nat) (h : hq_H) (w : hz_W) (H : hz_RC h w) : hq_Met (d + 5) MX6_inForce [.inr (3, 0)] h (hz_o (nI (hz_force w.1))) h := by
  refine (inX6_inForce (d + 4) 0 h _ _ (fun _ => trivial) (fun J b0 => b0 _ _ _ ?_))
  exact ⟨_, _, x_force (d + 2) h w.1 H.1 H.2.1.1 H.1.2.2.1, rfl, rfl⟩
theorem s_broken (d : Nat) (h : hq_H) (w : hz_W) (H : hz_RC h w) : hq_Met (d + 5) MX6_broken [.inr (3, 0)] h (hz_o (nI (hz_broke w.1 w.1.2.2.1))) h := by
  refine (inX6_broken (d + 4) 0 h _ _ (fun _ => trivial) (fun J b0 => b0 _ _ _ ?_))
  exact ⟨_, _, x_broke (d + 2) h w.1 H.1 H.2.1.1 H.1.2.2.1, hz_ri (congrArg (fun g => nI (hz_broke w.1 g)) H.1.2.1.symm), rfl⟩
theorem s_refusedBy (d : Nat) (h : hq_H) (w : hz_W) (H : hz_RC h w) (x : Int32) : hq_Met (d + 5) MX6_refusedBy [.inr (3, 0), hz_i x] h (sp_refusedBy w x).1 h := by
  unfold sp_refusedBy
  cases hx : hz_ix x 6 with
  | none =>
    refine (inX6_refusedBy (d + 4) 0 x h _ _ (fun _ => trivial) (fun J b0 => b0 _ _ _ ?_))
    exact Or.inr ⟨_, x_X6_requireRoom_n (d + 3) x h hx, rfl⟩
  | some k =>
    obtain ⟨rfl, hk⟩ := hz_ix_s (by omega) hx
    refine (inX6_refusedBy (d + 4) 0 _ h _ _ (fun _ => trivial) (fun J b0 => b0 _ _ _ ?_))
    refine Or.inl ⟨_, x_X6_requireRoom_y (d + 3) k h hk, ?_⟩
    exact ⟨_, _, x_ref (d + 2) h w.1 H.1 H.2.1 (nI k), rfl, rfl⟩
theorem s_finesByRules (d : Nat) (h : hq_H) (w : hz_W) (H : hz_RC h w) : hq_Met (d + 5) MX6_finesByRules [.inr (3, 0)] h (hz_o (hz_acc w.1.2.1 w.1.2.2.2.2.2 w.1.1)) h := by
  refine (inX6_finesByRules (d + 4) 0 h _ _ (fun _ => trivial) (fun J b0 => b0 _ _ _ ?_))
  have m := x_X0_accounts (d + 2) 0 h w.1.1 w.1.2.1 H.2.1.1 H.1.1 (fun k hk => (H.1.2.2.2.2.2 k hk).1)
  rw [H.1.2.2.2.2.1] at m
  exact ⟨_, _, m, rfl, rfl⟩
theorem s_canStand (d : Nat) (h : hq_H) (w : hz_W) (H : hz_RC h w) (x : Int32) : hq_Met (d + 5) MX6_canStand [.inr (3, 0), hz_i x] h (sp_set w x (fun S => hz_b (hz_nz (hz_stand w.1 S)))).1 h := by
  have n10 := H.2.1.1
  have p10 := hz_p10 n10
  unfold sp_set
  cases hx : hz_ix x (2 ^ w.1.1) with
  | none =>
    refine (inX6_canStand (d + 4) 0 x h _ _ (fun _ => trivial) (fun J b0 => b0 _ _ _ ?_))
    exact Or.inr ⟨_, x_X6_requireSet_n (d + 3) w.1.1 x h hx n10 H.1.1, rfl⟩
  | some S =>
    obtain ⟨rfl, hS⟩ := hz_ix_s (by omega) hx
    refine (inX6_canStand (d + 4) 0 _ h _ _ (fun _ => trivial) (fun J b0 => b0 _ _ _ ?_))
    refine Or.inl ⟨_, x_X6_requireSet_y (d + 3) S w.1.1 h hS n10 H.1.1, ?_⟩
    refine ⟨_, _, x_ways (d + 2) h w.1 H.1 n10 rfl (by omega), ?_⟩
    refine hq_bc (fun c => ?_) (fun c => ?_)
    · exact ⟨Or.inl rfl, hz_rf (by unfold hz_nz; rw [decide_eq_true ((hz_cmp0 _).mp c)]; rfl), rfl⟩
    · exact ⟨Or.inr rfl, hz_rb (by unfold hz_nz; rw [decide_eq_false (fun z => c ((hz_cmp0 _).mpr z))]; rfl), rfl⟩
theorem s_finesIn (d : Nat) (h : hq_H) (w : hz_W) (H : hz_RC h w) (x : Int32) : hq_Met (d + 5) MX6_finesIn [.inr (3, 0), hz_i x] h (sp_finesIn w x).1 h := by
  unfold sp_finesIn
  cases hx : hz_nn x with
  | none =>
    refine (inX6_finesIn (d + 4) 0 x h _ _ (fun _ => trivial) (fun J b0 => b0 _ _ _ ?_))
    exact Or.inr ⟨_, x_X6_requireNights_n (d + 3) x h hx, rfl⟩
  | some k =>
    obtain ⟨rfl, k1, k30⟩ := hz_nn_s hx
    refine (inX6_finesIn (d + 4) 0 _ h _ _ (fun _ => trivial) (fun J b0 => b0 _ _ _ ?_))
    refine Or.inl ⟨_, x_X6_requireNights_y (d + 3) k h k1 k30, ?_⟩
    exact ⟨_, _, x_ahead d h w.1 H.1 H.2.1.1 rfl k30, rfl, rfl⟩
theorem s_ways (d : Nat) (h : hq_H) (w : hz_W) (H : hz_RC h w) : hq_Met (d + 5) MX6_ways [.inr (3, 0)] h (hz_o (nI (hz_many w.1))) h := by
  refine (inX6_ways (d + 4) 0 h _ _ (fun _ => trivial) (fun J b0 => b0 _ _ _ ?_))
  exact ⟨_, _, x_count d h w.1 H.1 H.2.1.1, rfl, rfl⟩
theorem s_waysBySplitting (d : Nat) (h : hq_H) (w : hz_W) (H : hz_RC h w) : hq_Met (d + 10) MX6_waysBySplitting [.inr (3, 0)] h (hz_o (nI (hz_many w.1))) h := by
  refine (inX6_waysBySplitting (d + 9) 0 h _ _ (fun _ => trivial) (fun J b0 => b0 _ _ _ ?_))
  refine ⟨_, _, x_force (d + 7) h w.1 H.1 H.2.1.1 H.1.2.2.1, ?_⟩
  refine ⟨_, _, x_split0 d h w.1 H.1 H.2.1 rfl (hz_force31 _ H.2.1.1), ?_⟩
  exact ⟨hz_ri (by rw [← hz_ways_00, hz_ways_force]), rfl⟩
theorem s_canStandBySplitting (d : Nat) (h : hq_H) (w : hz_W) (H : hz_RC h w) (x : Int32) : hq_Met (d + 10) MX6_canStandBySplitting [.inr (3, 0), hz_i x] h (sp_set w x (fun S => hz_b (hz_nz (hz_stand w.1 S)))).1 h := by
  have n10 := H.2.1.1
  unfold sp_set
  cases hx : hz_ix x (2 ^ w.1.1) with
  | none =>
    refine (inX6_canStandBySplitting (d + 9) 0 x h _ _ (fun _ => trivial) (fun J b0 => b0 _ _ _ ?_))
    exact Or.inr ⟨_, x_X6_requireSet_n (d + 8) w.1.1 x h hx n10 H.1.1, rfl⟩
  | some S =>
    have p10 := hz_p10 n10
    obtain ⟨rfl, hS⟩ := hz_ix_s (by omega) hx
    refine (inX6_canStandBySplitting (d + 9) 0 _ h _ _ (fun _ => trivial) (fun J b0 => b0 _ _ _ ?_))
    refine Or.inl ⟨_, x_X6_requireSet_y (d + 8) S w.1.1 h hS n10 H.1.1, ?_⟩
    refine ⟨_, _, x_split0 d h w.1 H.1 H.2.1 rfl (by omega), ?_⟩
    have l64 := hz_cnt_le (hz_good w.1 S) 64
    refine hq_bc (fun c => ?_) (fun c => ?_)
    · refine ⟨Or.inl rfl, hz_rf ?_, rfl⟩
      have z : hz_cnt (hz_good w.1 S) 64 = 0 := by
        by_cases z : hz_cnt (hz_good w.1 S) 64 = 0
        · exact z
        · exact absurd c (nI_nle (by omega) (by omega))
      unfold hz_nz
      rw [decide_eq_true ((hz_stand_z w.1 S).mpr z)]
      rfl
    · refine ⟨Or.inr rfl, hz_rb ?_, rfl⟩
      unfold hz_nz
      rw [decide_eq_false (fun z => c (by rw [(hz_stand_z w.1 S).mp z]; decide))]
      rfl
theorem s_forced (d : Nat) (h : hq_H) (w : hz_W) (H : hz_RC h w) (x : Int32) : hq_Met (d + 5) MX6_forced [.inr (3, 0), hz_i x] h (sp_forced w x).1 h := by
  unfold sp_forced
  cases hx : hz_ix x 6 with
  | none =>
    refine (inX6_forced (d + 4) 0 x h _ _ (fun _ => trivial) (fun J b0 => b0 _ _ _ ?_))
    exact Or.inr ⟨_, x_X6_requireRoom_n (d + 3) x h hx, rfl⟩
  | some k =>
    obtain ⟨rfl, hk⟩ := hz_ix_s (by omega) hx
    refine (inX6_forced (d + 4) 0 _ h _ _ (fun _ => trivial) (fun J b0 => b0 _ _ _ ?_))
    refine Or.inl ⟨_, x_X6_requireRoom_y (d + 3) k h hk, ?_⟩
    exact ⟨_, _, x_com d k h w.1 H.1 H.2.1.1 hk, rfl, rfl⟩
-- ===== what follows =====
theorem s_follows (d : Nat) (h : hq_H) (w : hz_W) (H : hz_RC h w) (x : Int32) : hq_Met (d + 5) MX6_follows [.inr (3, 0), hz_i x] h (sp_follows w x).1 h := by
  have n10 := H.2.1.1
  unfold sp_follows
  cases hx : hz_ix x w.1.1 with
  | none =>
    refine (inX6_follows (d + 4) 0 x h _ _ (fun _ => trivial) (fun J b0 => b0 _ _ _ ?_))
    exact Or.inr ⟨_, x_X6_requireRule_n (d + 3) w.1.1 x h hx H.1.1, rfl⟩
  | some k =>
    obtain ⟨rfl, hk⟩ := hz_ix_s (by omega) hx
    refine (inX6_follows (d + 4) 0 _ h _ _ (fun _ => trivial) (fun J b0 => b0 _ _ _ ?_))
    refine Or.inl ⟨_, x_X6_requireRule_y (d + 3) k w.1.1 h hk n10 H.1.1, ?_⟩
    exact ⟨_, _, x_fol d k h w.1 H.1 n10 hk, hz_bz _, rfl, rfl⟩
theorem s_followsBySplitting (d : Nat) (h : hq_H) (w : hz_W) (H : hz_RC h w) (x : Int32) : hq_Met (d + 11) MX6_followsBySplitting [.inr (3, 0), hz_i x] h (sp_follows w x).1 h := by
  have n10 := H.2.1.1
  unfold sp_follows
  cases hx : hz_ix x w.1.1 with
  | none =>
    refine (inX6_followsBySplitting (d + 10) 0 x h _ _ (fun _ => trivial) (fun J b0 => b0 _ _ _ ?_))
    exact Or.inr ⟨_, x_X6_requireRule_n (d + 9) w.1.1 x h hx H.1.1, rfl⟩
  | some k =>
    obtain ⟨rfl, hk⟩ := hz_ix_s (by omega) hx
    refine (inX6_followsBySplitting (d + 10) 0 _ h _ _ (fun _ => trivial) (fun J b0 => b0 _ _ _ ?_))
    refine Or.inl ⟨_, x_X6_requireRule_y (d + 9) k w.1.1 h hk n10 H.1.1, ?_⟩
    exact ⟨_, _, x_fols d k h w.1 H.1 H.2.1 hk, hz_bz _, rfl, rfl⟩

theorem s_narrowedClash (d : Nat) (h : hq_H) (w : hz_W) (H : hz_RC h w) : hq_Met (d + 5) MX6_narrowedClash [.inr (3, 0)] h (hz_o (hz_narrowed w.1)) h := (x_narrowed (d + 1) h w.1 H.1 H.2.1.1)

theorem s_fewestWaivers (d : Nat) (h : hq_H) (w : hz_W) (H : hz_RC h w) : hq_Met (d + 5) MX6_fewestWaivers [.inr (3, 0)] h (hz_o (nI (hz_few w.1 63))) h := (x_few (d + 1) h w.1 H.1 H.2.1.1)
theorem s_smallestClashByWays (d : Nat) (h : hq_H) (w : hz_W) (H : hz_RC h w) : hq_Met (d + 13) MX6_smallestClashByWays [.inr (3, 0)] h (hz_o (hz_scw w.1)) h := (x_scw d h w.1 H.1 H.2.1.1)

theorem s_nightNow (d : Nat) (h : hq_H) (w : hz_W) (H : hz_RC h w) : hq_Met (d + 5) MX6_nightNow [.inr (3, 0)] h (hz_o (hz_night w.1.2.1 w.1.1 w.1.2.2.2.1 w.1.2.2.1)) h := by
  refine (inX6_nightNow (d + 4) 0 h _ _ (fun _ => trivial) (fun J b0 => b0 _ _ _ ?_))
  have m := x_night (d + 1) h w.1 H.1 H.2.1.1 (way := h.1 0 0 3) H.1.2.2.1
  rw [show hz_night w.1.2.1 w.1.1 w.1.2.2.2.1 (h.1 0 0 3) = hz_night w.1.2.1 w.1.1 w.1.2.2.2.1 w.1.2.2.1 by rw [H.1.2.1]] at m
  exact ⟨_, _, m, rfl, rfl⟩
theorem s_bestTurn (d : Nat) (h : hq_H) (w : hz_W) (H : hz_RC h w) : hq_Met (d + 5) MX6_bestTurn [.inr (3, 0)] h (hz_o (hz_bt w.1 6).1) h := (x_bt d h w.1 H.1 H.2.1)
theorem s_turnsToPeace (d : Nat) (h : hq_H) (w : hz_W) (H : hz_RC h w) : hq_Met (d + 5) MX6_turnsToPeace [.inr (3, 0)] h (hz_o (hz_tp w.1 64)) h := (x_tp (d + 1) h w.1 H.1 H.2.1)

theorem s_cheapestNight (d : Nat) (h : hq_H) (w : hz_W) (H : hz_RC h w) : hq_Met (d + 10) MX6_cheapestNight [.inr (3, 0)] h (hz_o (hz_night w.1.2.1 w.1.1 w.1.2.2.2.1 (nI (hz_chp w.1 63)))) h := (x_chn d h w.1 H.1 H.2.1)

theorem s_turnsToPeaceByGoing (d : Nat) (h : hq_H) (w : hz_W) (H : hz_RC h w) : hq_Met (d + 5) MX6_turnsToPeaceByGoing [.inr (3, 0)] h (hz_o (hz_tg w.1)) h := (x_tg (d + 1) h w.1 H.1 H.2.1)

