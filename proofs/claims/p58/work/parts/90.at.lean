-- ===== calls at a number in range (printed by wip/gen/at58.py) =====
theorem sp_attr_at {w : hz_W} (n10 : w.1.1 ≤ 10) {k : Nat} (hk : k < w.1.1) (a : Nat) : sp_attr w (nI k) a = (hz_o (w.1.2.1 k a), w) := by
  have e0 := hz_ix_of hk (show w.1.1 < 2 ^ 31 by omega)
  unfold sp_attr
  split
  · rename_i z
    rw [e0] at z
    cases z
  rename_i z
  rw [e0] at z
  cases z
  rfl
theorem sp_waivedFor_at {w : hz_W} (n10 : w.1.1 ≤ 10) {k : Nat} (hk : k < w.1.1) : sp_waivedFor w (nI k) = (hz_o (hz_wd (w.1.2.1 k 4 - w.1.2.2.2.1)), w) := by
  have e0 := hz_ix_of hk (show w.1.1 < 2 ^ 31 by omega)
  unfold sp_waivedFor
  split
  · rename_i z
    rw [e0] at z
    cases z
  rename_i z
  rw [e0] at z
  cases z
  rfl
theorem sp_holdsIn_at {w : hz_W} (n10 : w.1.1 ≤ 10) {k q : Nat} (hk : k < w.1.1) (hq : q < 64) : sp_holdsIn w (nI k) (nI q) = (hz_o (hz_b (hz_hold (w.1.2.1 k 0) (w.1.2.1 k 1) (nI q))), w) := by
  have e0 := hz_ix_of hk (show w.1.1 < 2 ^ 31 by omega)
  have e1 := hz_ix_of hq (show 64 < 2 ^ 31 by decide)
  unfold sp_holdsIn
  split
  · rename_i z
    rw [e0] at z
    cases z
  rename_i z
  rw [e0] at z
  cases z
  split
  · rename_i z
    rw [e1] at z
    cases z
  rename_i z
  rw [e1] at z
  cases z
  rfl
theorem sp_refusedBy_at {w : hz_W} (n10 : w.1.1 ≤ 10) {k : Nat} (hk : k < 6) : sp_refusedBy w (nI k) = (hz_o (hz_rfs w.1 (nI k)), w) := by
  have e0 := hz_ix_of hk (show 6 < 2 ^ 31 by decide)
  unfold sp_refusedBy
  split
  · rename_i z
    rw [e0] at z
    cases z
  rename_i z
  rw [e0] at z
  cases z
  rfl
theorem sp_forced_at {w : hz_W} (n10 : w.1.1 ≤ 10) {k : Nat} (hk : k < 6) : sp_forced w (nI k) = (hz_o (hz_com w.1 k), w) := by
  have e0 := hz_ix_of hk (show 6 < 2 ^ 31 by decide)
  unfold sp_forced
  split
  · rename_i z
    rw [e0] at z
    cases z
  rename_i z
  rw [e0] at z
  cases z
  rfl
theorem sp_follows_at {w : hz_W} (n10 : w.1.1 ≤ 10) {k : Nat} (hk : k < w.1.1) : sp_follows w (nI k) = (hz_o (hz_b (hz_fol w.1 k)), w) := by
  have e0 := hz_ix_of hk (show w.1.1 < 2 ^ 31 by omega)
  unfold sp_follows
  split
  · rename_i z
    rw [e0] at z
    cases z
  rename_i z
  rw [e0] at z
  cases z
  rfl
theorem sp_set_at {w : hz_W} (n10 : w.1.1 ≤ 10) {S : Nat} (hk : S < 2 ^ w.1.1) (f : Nat → Int32) : sp_set w (nI S) f = (hz_o (f S), w) := by
  have e0 := hz_ix_of hk (show 2 ^ w.1.1 < 2 ^ 31 by have := hz_p10 n10; omega)
  unfold sp_set
  split
  · rename_i z
    rw [e0] at z
    cases z
  rename_i z
  rw [e0] at z
  cases z
  rfl
theorem sp_finesIn_at {w : hz_W} (n10 : w.1.1 ≤ 10)  : sp_finesIn w 1 = (hz_o (hz_ahead w.1.2.1 w.1.1 w.1.2.2.2.1 w.1.2.2.1 1), w) := by
  have e0 := (by decide : hz_nn 1 = some 1)
  unfold sp_finesIn
  split
  · rename_i z
    rw [e0] at z
    cases z
  rename_i z
  rw [e0] at z
  cases z
  rfl
theorem v_let {h : hq_H} {w : hz_W} (R : hz_RC h w) {k : Nat} (hk : k < w.1.1) : hq_MetW 0 20 ML_let (some hhL_let) hq_X0 [.inr (3, 0), hz_i (nI k)] h (hz_o (w.1.2.1 k 0)) h := by
  have m := s_shouldBeLet 14 h w R (nI k)
  rw [sp_attr_at R.2.1.1 hk 0] at m
  exact pL_let 19 (nI k) h h _ m
theorem v_empty {h : hq_H} {w : hz_W} (R : hz_RC h w) {k : Nat} (hk : k < w.1.1) : hq_MetW 0 20 ML_empty (some hhL_empty) hq_X0 [.inr (3, 0), hz_i (nI k)] h (hz_o (w.1.2.1 k 1)) h := by
  have m := s_shouldBeEmpty 14 h w R (nI k)
  rw [sp_attr_at R.2.1.1 hk 1] at m
  exact pL_empty 19 (nI k) h h _ m
theorem v_fine {h : hq_H} {w : hz_W} (R : hz_RC h w) {k : Nat} (hk : k < w.1.1) : hq_MetW 0 20 ML_fine (some hhL_fine) hq_X0 [.inr (3, 0), hz_i (nI k)] h (hz_o (w.1.2.1 k 2)) h := by
  have m := s_fine 14 h w R (nI k)
  rw [sp_attr_at R.2.1.1 hk 2] at m
  exact pL_fine 19 (nI k) h h _ m
theorem v_sum {h : hq_H} {w : hz_W} (R : hz_RC h w) {k : Nat} (hk : k < w.1.1) : hq_MetW 0 20 ML_sum (some hhL_sum) hq_X0 [.inr (3, 0), hz_i (nI k)] h (hz_o (w.1.2.1 k 5)) h := by
  have m := s_finesOf 14 h w R (nI k)
  rw [sp_attr_at R.2.1.1 hk 5] at m
  exact pL_sum 19 (nI k) h h _ m
theorem v_isStrict {h : hq_H} {w : hz_W} (R : hz_RC h w) {k : Nat} (hk : k < w.1.1) : hq_MetW 0 20 ML_isStrict (some hhL_isStrict) hq_X0 [.inr (3, 0), hz_i (nI k)] h (hz_o (w.1.2.1 k 3)) h := by
  have m := s_isStrict 14 h w R (nI k)
  rw [sp_attr_at R.2.1.1 hk 3] at m
  exact pL_isStrict 19 (nI k) h h _ (R.2.1.s k hk) m
theorem v_waived {h : hq_H} {w : hz_W} (R : hz_RC h w) {k : Nat} (hk : k < w.1.1) : hq_MetW 0 20 ML_waived (some hhL_waived) hq_X0 [.inr (3, 0), hz_i (nI k)] h (hz_o (hz_wd (w.1.2.1 k 4 - w.1.2.2.2.1))) h := by
  have m := s_waivedFor 14 h w R (nI k)
  rw [sp_waivedFor_at R.2.1.1 hk] at m
  exact pL_waived 19 (nI k) h h _ m
theorem v_holds {h : hq_H} {w : hz_W} (R : hz_RC h w) {k q : Nat} (hk : k < w.1.1) (hq : q < 64) : hq_MetW 0 20 ML_holds (some hhL_holds) hq_X0 [.inr (3, 0), hz_i (nI k), hz_i (nI q)] h (hz_o (hz_b (hz_hold (w.1.2.1 k 0) (w.1.2.1 k 1) (nI q)))) h := by
  have m := s_holdsIn 14 h w R (nI k) (nI q)
  rw [sp_holdsIn_at R.2.1.1 hk hq] at m
  exact pL_holds 19 (nI k) (nI q) h h _ (hz_bz _) m
theorem v_refused {h : hq_H} {w : hz_W} (R : hz_RC h w) {k : Nat} (hk : k < 6) : hq_MetW 0 20 ML_refused (some hhL_refused) hq_X0 [.inr (3, 0), hz_i (nI k)] h (hz_o (hz_rfs w.1 (nI k))) h := by
  have m := s_refusedBy 14 h w R (nI k)
  rw [sp_refusedBy_at R.2.1.1 hk] at m
  exact pL_refused 19 (nI k) h h _ m
theorem v_forced {h : hq_H} {w : hz_W} (R : hz_RC h w) {k : Nat} (hk : k < 6) : hq_MetW 0 20 ML_forced (some hhL_forced) hq_X0 [.inr (3, 0), hz_i (nI k)] h (hz_o (hz_com w.1 k)) h := by
  have m := s_forced 14 h w R (nI k)
  rw [sp_forced_at R.2.1.1 hk] at m
  exact pL_forced 19 (nI k) h h _ m
theorem v_follows {h : hq_H} {w : hz_W} (R : hz_RC h w) {k : Nat} (hk : k < w.1.1) : hq_MetW 0 20 ML_follows (some hhL_follows) hq_X0 [.inr (3, 0), hz_i (nI k)] h (hz_o (hz_b (hz_fol w.1 k))) h := by
  have m := s_follows 14 h w R (nI k)
  rw [sp_follows_at R.2.1.1 hk] at m
  exact pL_follows 19 (nI k) h h _ (hz_bz _) m
theorem v_comes {h : hq_H} {w : hz_W} (R : hz_RC h w) {k : Nat} (hk : k < w.1.1) : hq_MetW 0 20 ML_comes (some hhL_comes) hq_X0 [.inr (3, 0), hz_i (nI k)] h (hz_o (hz_b (hz_fol w.1 k))) h := by
  have m := s_followsBySplitting 8 h w R (nI k)
  rw [sp_follows_at R.2.1.1 hk] at m
  exact pL_comes 19 (nI k) h h _ (hz_bz _) m
theorem v_stand {h : hq_H} {w : hz_W} (R : hz_RC h w) {S : Nat} (hk : S < 2 ^ w.1.1) : hq_MetW 0 20 ML_stand (some hhL_stand) hq_X0 [.inr (3, 0), hz_i (nI S)] h (hz_o (hz_b (hz_nz (hz_stand w.1 S)))) h := by
  have m := s_canStand 14 h w R (nI S)
  rw [sp_set_at R.2.1.1 hk] at m
  exact pL_stand 19 (nI S) h h _ (hz_bz _) m
theorem v_split {h : hq_H} {w : hz_W} (R : hz_RC h w) {S : Nat} (hk : S < 2 ^ w.1.1) : hq_MetW 0 20 ML_split (some hhL_split) hq_X0 [.inr (3, 0), hz_i (nI S)] h (hz_o (hz_b (hz_nz (hz_stand w.1 S)))) h := by
  have m := s_canStandBySplitting 9 h w R (nI S)
  rw [sp_set_at R.2.1.1 hk] at m
  exact pL_split 19 (nI S) h h _ (hz_bz _) m
theorem v_ahead {h : hq_H} {w : hz_W} (R : hz_RC h w)  : hq_MetW 0 20 ML_ahead (some hhL_ahead) hq_X0 [.inr (3, 0), hz_i (1)] h (hz_o (hz_ahead w.1.2.1 w.1.1 w.1.2.2.2.1 w.1.2.2.1 1)) h := by
  have m := s_finesIn 14 h w R (1)
  rw [sp_finesIn_at R.2.1.1] at m
  exact pL_ahead 19 (1) h h _ m
theorem v_join {h : hq_H} {w : hz_W} (R : hz_RC h w) {S : Nat} (hk : S < 2 ^ w.1.1) : ∃ h1, hq_MetW 0 20 ML_join (some hhL_join) hq_X0 [.inr (3, 0), hz_i (nI S)] h (hz_o (hz_b (!hj_in (hz_joined w.1 S) 0))) h1 ∧ hz_RC h1 w := by
  have m := t_canStandByJoining 14 h w R (nI S)
  rw [sp_set_at R.2.1.1 hk] at m
  obtain ⟨h1, m1, R1, -⟩ := m
  exact ⟨h1, pL_join 19 (nI S) h h1 _ (hz_bz _) m1, R1⟩
theorem v_joined {h : hq_H} {w : hz_W} (R : hz_RC h w) {S : Nat} (hk : S < 2 ^ w.1.1) : ∃ h1, hq_MetW 0 20 ML_joined (some hhL_joined) hq_X0 [.inr (3, 0), hz_i (nI S)] h (hz_o (nI (hz_joined w.1 S).1)) h1 ∧ hz_RC h1 w := by
  have m := t_joined 14 h w R (nI S)
  rw [sp_set_at R.2.1.1 hk] at m
  obtain ⟨h1, m1, R1, -⟩ := m
  exact ⟨h1, pL_joined 19 (nI S) h h1 _ m1, R1⟩
