-- ===== the reference: the plain looks =====
theorem hm_RM_lk {h : hq_H} {w : hz_W} (R : hm_RM h w) : hm_RM (hm_lk h w.1) w := ⟨hm_lk_Q R.1, R.2.1, R.2.2.1, R.2.2.2.1, R.2.2.2.2⟩
theorem hw_Mo_lk (h : hq_H) (st : hz_St) : hw_stay hw_Mo h (hm_lk h st) := fun k i hn => ⟨rfl, hw_lk_o (fun z => hn ⟨by omega, by omega⟩)⟩
theorem hm_look0 {M : hq_M} {d : Nat} {args : List hq_V} {h : hq_H} {E1 : String} {w : hz_W} {v : Value} (R : hm_RM h w) (ok : hz_okW w) (m : hq_Met d M args h (.inl (some (.inl v))) (hq_si h 13 0 3 0)) : hm_Ans M d args h E1 (.inl (some (.inl v)), w) :=
  ⟨_, v, m, hm_RM_th 0 R ok, hw_Mo_13 h 3 0, hm_th1 h 0, rfl⟩
theorem hm_lookL {M : hq_M} {d : Nat} {args : List hq_V} {h : hq_H} {E1 : String} {w : hz_W} {v : Value} (R : hm_RM h w) (ok : hz_okW w) (m : hq_Met d M args h (.inl (some (.inl v))) (hm_lk (hq_si h 13 0 3 0) w.1)) : hm_Ans M d args h E1 (.inl (some (.inl v)), w) :=
  ⟨_, v, m, hm_RM_lk (hm_RM_th 0 R ok), (hw_Mo_13 h 3 0).trans (hw_Mo_lk _ _), hm_th1 h 0, rfl⟩
theorem r_rules (d : Nat) (h : hq_H) (w : hz_W) (R : hm_RM h w) (ok : hz_okW w) : hm_Ans MX7_rules (d + 9) [.inr (13, 0)] h hz_IAE (hz_o (nI w.1.1), w) := by
  have n10 := ok.1.1
  have R0 := hm_RM_th 0 R ok
  refine hm_look0 R ok (inX7_rules (d + 8) 0 h _ _ (fun _ => trivial) (fun J b0 => b0 _ _ _ ?_))
  exact ⟨0, by decide, rfl, hz_ri R0.1.1.1.symm, rfl⟩
theorem r_way (d : Nat) (h : hq_H) (w : hz_W) (R : hm_RM h w) (ok : hz_okW w) : hm_Ans MX7_way (d + 9) [.inr (13, 0)] h hz_IAE (hz_o w.1.2.2.1, w) := by
  have n10 := ok.1.1
  have R0 := hm_RM_th 0 R ok
  refine hm_look0 R ok (inX7_way (d + 8) 0 h _ _ (fun _ => trivial) (fun J b0 => b0 _ _ _ ?_))
  exact ⟨1, by decide, rfl, hz_ri R0.1.1.2.1.symm, rfl⟩
theorem r_day (d : Nat) (h : hq_H) (w : hz_W) (R : hm_RM h w) (ok : hz_okW w) : hm_Ans MX7_day (d + 9) [.inr (13, 0)] h hz_IAE (hz_o w.1.2.2.2.1, w) := by
  have n10 := ok.1.1
  have R0 := hm_RM_th 0 R ok
  refine hm_look0 R ok (inX7_day (d + 8) 0 h _ _ (fun _ => trivial) (fun J b0 => b0 _ _ _ ?_))
  exact ⟨2, by decide, rfl, hz_ri R0.1.1.2.2.1.symm, rfl⟩
theorem r_fines (d : Nat) (h : hq_H) (w : hz_W) (R : hm_RM h w) (ok : hz_okW w) : hm_Ans MX7_fines (d + 9) [.inr (13, 0)] h hz_IAE (hz_o w.1.2.2.2.2.1, w) := by
  have n10 := ok.1.1
  have R0 := hm_RM_th 0 R ok
  refine hm_look0 R ok (inX7_fines (d + 8) 0 h _ _ (fun _ => trivial) (fun J b0 => b0 _ _ _ ?_))
  exact ⟨3, by decide, rfl, hz_ri R0.1.1.2.2.2.1.symm, rfl⟩
theorem r_inForce (d : Nat) (h : hq_H) (w : hz_W) (R : hm_RM h w) (ok : hz_okW w) : hm_Ans MX7_inForce (d + 9) [.inr (13, 0)] h hz_IAE (hz_o (nI (hz_force w.1)), w) := by
  have n10 := ok.1.1
  have R0 := hm_RM_th 0 R ok
  refine hm_look0 R ok (inX7_inForce (d + 8) 0 h _ _ (fun _ => trivial) (fun J b0 => b0 _ _ _ ?_))
  exact ⟨_, _, m_force (d + 5) (hq_si h 13 0 3 0) w.1 R0.1.1 n10, rfl, rfl⟩
theorem r_broken (d : Nat) (h : hq_H) (w : hz_W) (R : hm_RM h w) (ok : hz_okW w) : hm_Ans MX7_broken (d + 9) [.inr (13, 0)] h hz_IAE (hz_o (nI (hz_broke w.1 w.1.2.2.1)), w) := by
  have n10 := ok.1.1
  have R0 := hm_RM_th 0 R ok
  refine hm_look0 R ok (inX7_broken (d + 8) 0 h _ _ (fun _ => trivial) (fun J b0 => b0 _ _ _ ?_))
  refine ⟨1, by decide, rfl, ?_⟩
  have m := m_broke (d + 5) ((hq_si h 13 0 3 0).1 14 0 1) (hq_si h 13 0 3 0) w.1 R0.1.1 n10
  rw [show hz_broke w.1 ((hq_si h 13 0 3 0).1 14 0 1) = hz_broke w.1 w.1.2.2.1 by rw [R0.1.1.2.1]] at m
  exact ⟨_, _, m, rfl, rfl⟩
theorem r_finesByRules (d : Nat) (h : hq_H) (w : hz_W) (R : hm_RM h w) (ok : hz_okW w) : hm_Ans MX7_finesByRules (d + 9) [.inr (13, 0)] h hz_IAE (hz_o (hz_acc w.1.2.1 w.1.2.2.2.2.2 w.1.1), w) := by
  have n10 := ok.1.1
  have R0 := hm_RM_th 0 R ok
  refine hm_look0 R ok (inX7_finesByRules (d + 8) 0 h _ _ (fun _ => trivial) (fun J b0 => b0 _ _ _ ?_))
  exact ⟨_, _, m_acc (d + 6) (hq_si h 13 0 3 0) w.1 R0.1.1 n10, rfl, rfl⟩
theorem r_ways (d : Nat) (h : hq_H) (w : hz_W) (R : hm_RM h w) (ok : hz_okW w) : hm_Ans MX7_ways (d + 9) [.inr (13, 0)] h hz_IAE (hz_o (nI (hz_many w.1)), w) := by
  have n10 := ok.1.1
  have R0 := hm_RM_th 0 R ok
  refine hm_lookL R ok (inX7_ways (d + 8) 0 h _ _ (fun _ => trivial) (fun J b0 => b0 _ _ _ ?_))
  refine ⟨_, _, m_peace (d + 4) (hq_si h 13 0 3 0) w.1 R0.1 ok.1, _, _, m_cw (d + 7) _ _, ?_⟩
  exact ⟨hz_ri (congrArg nI (hz_many_is w.1).symm), rfl⟩
theorem r_waysBySplitting (d : Nat) (h : hq_H) (w : hz_W) (R : hm_RM h w) (ok : hz_okW w) : hm_Ans MX7_waysBySplitting (d + 9) [.inr (13, 0)] h hz_IAE (hz_o (nI (hz_many w.1)), w) := by
  have n10 := ok.1.1
  have R0 := hm_RM_th 0 R ok
  refine hm_look0 R ok (inX7_waysBySplitting (d + 8) 0 h _ _ (fun _ => trivial) (fun J b0 => b0 _ _ _ ?_))
  exact ⟨_, _, m_ws (d + 4) (hq_si h 13 0 3 0) w.1 R0.1.1 n10, rfl, rfl⟩
theorem r_firstWay (d : Nat) (h : hq_H) (w : hz_W) (R : hm_RM h w) (ok : hz_okW w) : hm_Ans MX7_firstWay (d + 9) [.inr (13, 0)] h hz_IAE (hz_o (hz_first w.1), w) := by
  have n10 := ok.1.1
  have R0 := hm_RM_th 0 R ok
  refine hm_lookL R ok (inX7_firstWay (d + 8) 0 h _ _ (fun _ => trivial) (fun J b0 => b0 _ _ _ ?_))
  refine ⟨_, _, m_peace (d + 4) (hq_si h 13 0 3 0) w.1 R0.1 ok.1, _, _, m_least (d + 7) _ _, ?_⟩
  exact ⟨hz_ri (hz_first_is w.1).symm, rfl⟩
theorem r_smallestClash (d : Nat) (h : hq_H) (w : hz_W) (R : hm_RM h w) (ok : hz_okW w) : hm_Ans MX7_smallestClash (d + 9) [.inr (13, 0)] h hz_IAE (hz_o (hz_small w.1), w) := by
  have n10 := ok.1.1
  have R0 := hm_RM_th 0 R ok
  refine hm_lookL R ok (inX7_smallestClash (d + 8) 0 h _ _ (fun _ => trivial) (fun J b0 => b0 _ _ _ ?_))
  exact ⟨_, _, m_small (d + 4) (hq_si h 13 0 3 0) w.1 R0.1 ok.1, rfl, rfl⟩
theorem r_smallestClashByWays (d : Nat) (h : hq_H) (w : hz_W) (R : hm_RM h w) (ok : hz_okW w) : hm_Ans MX7_smallestClashByWays (d + 9) [.inr (13, 0)] h hz_IAE (hz_o (hz_scw w.1), w) := by
  have n10 := ok.1.1
  have R0 := hm_RM_th 0 R ok
  refine hm_look0 R ok (inX7_smallestClashByWays (d + 8) 0 h _ _ (fun _ => trivial) (fun J b0 => b0 _ _ _ ?_))
  rw [hb_scw w.1 n10] at *
  exact ⟨_, _, m_meet (d + 4) (hq_si h 13 0 3 0) w.1 R0.1.1 n10, rfl, rfl⟩
theorem r_narrowedClash (d : Nat) (h : hq_H) (w : hz_W) (R : hm_RM h w) (ok : hz_okW w) : hm_Ans MX7_narrowedClash (d + 9) [.inr (13, 0)] h hz_IAE (hz_o (hz_narrowed w.1), w) := by
  have n10 := ok.1.1
  have R0 := hm_RM_th 0 R ok
  refine hm_lookL R ok (inX7_narrowedClash (d + 8) 0 h _ _ (fun _ => trivial) (fun J b0 => b0 _ _ _ ?_))
  exact ⟨_, _, m_narrowed (d + 4) (hq_si h 13 0 3 0) w.1 R0.1 ok.1, rfl, rfl⟩
theorem r_narrowClashes (d : Nat) (h : hq_H) (w : hz_W) (R : hm_RM h w) (ok : hz_okW w) : hm_Ans MX7_narrowClashes (d + 9) [.inr (13, 0)] h hz_IAE (hz_o (nI (hz_narrows w.1)), w) := by
  have n10 := ok.1.1
  have R0 := hm_RM_th 0 R ok
  refine hm_lookL R ok (inX7_narrowClashes (d + 8) 0 h _ _ (fun _ => trivial) (fun J b0 => b0 _ _ _ ?_))
  exact ⟨_, _, m_narrows (d + 4) (hq_si h 13 0 3 0) w.1 R0.1 ok.1, rfl, rfl⟩
theorem r_fewestWaivers (d : Nat) (h : hq_H) (w : hz_W) (R : hm_RM h w) (ok : hz_okW w) : hm_Ans MX7_fewestWaivers (d + 9) [.inr (13, 0)] h hz_IAE (hz_o (nI (hz_few w.1 63)), w) := by
  have n10 := ok.1.1
  have R0 := hm_RM_th 0 R ok
  refine hm_look0 R ok (inX7_fewestWaivers (d + 8) 0 h _ _ (fun _ => trivial) (fun J b0 => b0 _ _ _ ?_))
  exact ⟨_, _, m_few (d + 4) (hq_si h 13 0 3 0) w.1 R0.1.1 n10, rfl, rfl⟩
theorem r_fewestWaiversBySets (d : Nat) (h : hq_H) (w : hz_W) (R : hm_RM h w) (ok : hz_okW w) : hm_Ans MX7_fewestWaiversBySets (d + 9) [.inr (13, 0)] h hz_IAE (hz_o (nI (hz_fws w.1)), w) := by
  have n10 := ok.1.1
  have R0 := hm_RM_th 0 R ok
  refine hm_lookL R ok (inX7_fewestWaiversBySets (d + 8) 0 h _ _ (fun _ => trivial) (fun J b0 => b0 _ _ _ ?_))
  exact ⟨_, _, m_fws (d + 4) (hq_si h 13 0 3 0) w.1 R0.1 ok.1, rfl, rfl⟩
theorem r_turnsToPeace (d : Nat) (h : hq_H) (w : hz_W) (R : hm_RM h w) (ok : hz_okW w) : hm_Ans MX7_turnsToPeace (d + 9) [.inr (13, 0)] h hz_IAE (hz_o (hz_tp w.1 64), w) := by
  have n10 := ok.1.1
  have R0 := hm_RM_th 0 R ok
  refine hm_lookL R ok (inX7_turnsToPeace (d + 8) 0 h _ _ (fun _ => trivial) (fun J b0 => b0 _ _ _ ?_))
  exact ⟨_, _, m_tp (d + 3) (hq_si h 13 0 3 0) w.1 R0.1 ok.1, rfl, rfl⟩
theorem r_turnsToPeaceByGoing (d : Nat) (h : hq_H) (w : hz_W) (R : hm_RM h w) (ok : hz_okW w) : hm_Ans MX7_turnsToPeaceByGoing (d + 9) [.inr (13, 0)] h hz_IAE (hz_o (hz_tg w.1), w) := by
  have n10 := ok.1.1
  have R0 := hm_RM_th 0 R ok
  refine hm_look0 R ok (inX7_turnsToPeaceByGoing (d + 8) 0 h _ _ (fun _ => trivial) (fun J b0 => b0 _ _ _ ?_))
  exact ⟨_, _, m_tg (d + 4) (hq_si h 13 0 3 0) w.1 R0.1.1 ok.1, rfl, rfl⟩
theorem r_nightNow (d : Nat) (h : hq_H) (w : hz_W) (R : hm_RM h w) (ok : hz_okW w) : hm_Ans MX7_nightNow (d + 9) [.inr (13, 0)] h hz_IAE (hz_o (hz_night w.1.2.1 w.1.1 w.1.2.2.2.1 w.1.2.2.1), w) := by
  have n10 := ok.1.1
  have R0 := hm_RM_th 0 R ok
  refine hm_look0 R ok (inX7_nightNow (d + 8) 0 h _ _ (fun _ => trivial) (fun J b0 => b0 _ _ _ ?_))
  refine ⟨1, by decide, rfl, ?_⟩
  have m := m_night (d + 4) ((hq_si h 13 0 3 0).1 14 0 1) (hq_si h 13 0 3 0) w.1 R0.1.1 n10
  rw [show hz_night w.1.2.1 w.1.1 w.1.2.2.2.1 ((hq_si h 13 0 3 0).1 14 0 1) = hz_night w.1.2.1 w.1.1 w.1.2.2.2.1 w.1.2.2.1 by rw [R0.1.1.2.1]] at m
  exact ⟨_, _, m, rfl, rfl⟩
theorem r_cheapestWay (d : Nat) (h : hq_H) (w : hz_W) (R : hm_RM h w) (ok : hz_okW w) : hm_Ans MX7_cheapestWay (d + 9) [.inr (13, 0)] h hz_IAE (hz_o (nI (hz_chp w.1 63)), w) := by
  have n10 := ok.1.1
  have R0 := hm_RM_th 0 R ok
  refine hm_look0 R ok (inX7_cheapestWay (d + 8) 0 h _ _ (fun _ => trivial) (fun J b0 => b0 _ _ _ ?_))
  exact ⟨_, _, m_chp (d + 3) (hq_si h 13 0 3 0) w.1 R0.1.1 ok.1, rfl, rfl⟩
theorem r_cheapestNight (d : Nat) (h : hq_H) (w : hz_W) (R : hm_RM h w) (ok : hz_okW w) : hm_Ans MX7_cheapestNight (d + 9) [.inr (13, 0)] h hz_IAE (hz_o (hz_night w.1.2.1 w.1.1 w.1.2.2.2.1 (nI (hz_chp w.1 63))), w) := by
  have n10 := ok.1.1
  have R0 := hm_RM_th 0 R ok
  refine hm_look0 R ok (inX7_cheapestNight (d + 8) 0 h _ _ (fun _ => trivial) (fun J b0 => b0 _ _ _ ?_))
  exact ⟨_, _, m_chp (d + 3) (hq_si h 13 0 3 0) w.1 R0.1.1 ok.1, _, _, m_night (d + 4) _ (hq_si h 13 0 3 0) w.1 R0.1.1 n10, rfl, rfl⟩
theorem r_bestTurn (d : Nat) (h : hq_H) (w : hz_W) (R : hm_RM h w) (ok : hz_okW w) : hm_Ans MX7_bestTurn (d + 9) [.inr (13, 0)] h hz_IAE (hz_o (hz_bt w.1 6).1, w) := by
  have n10 := ok.1.1
  have R0 := hm_RM_th 0 R ok
  refine hm_look0 R ok (inX7_bestTurn (d + 8) 0 h _ _ (fun _ => trivial) (fun J b0 => b0 _ _ _ ?_))
  exact ⟨_, _, m_bt (d + 3) (hq_si h 13 0 3 0) w.1 R0.1.1 ok.1, rfl, rfl⟩
theorem r_peaceShare (d : Nat) (h : hq_H) (w : hz_W) (R : hm_RM h w) (ok : hz_okW w) : hm_Ans MX7_peaceShare (d + 9) [.inr (13, 0)] h hz_IAE (.inl (some (.inl (.double (hz_dv (hz_many w.1))))), w) := by
  have n10 := ok.1.1
  have R0 := hm_RM_th 0 R ok
  refine hm_look0 R ok (inX7_peaceShare (d + 8) 0 h _ _ (fun _ => trivial) (fun J b0 => b0 _ _ _ ?_))
  have l64 : hz_many w.1 ≤ 64 := hz_cnt_le _ 64
  have nn := hz_dv_n (hz_many w.1) (by omega)
  exact ⟨_, _, m_ws (d + 4) (hq_si h 13 0 3 0) w.1 R0.1.1 n10, nn, rfl, rfl⟩
theorem r_meanFine (d : Nat) (h : hq_H) (w : hz_W) (R : hm_RM h w) (ok : hz_okW w) : hm_Ans MX7_meanFine (d + 9) [.inr (13, 0)] h hz_IAE (.inl (some (.inl (.float (hz_mean w.1)))), w) := by
  have n10 := ok.1.1
  have R0 := hm_RM_th 0 R ok
  refine hm_look0 R ok (inX7_meanFine (d + 8) 0 h _ _ (fun _ => trivial) (fun J b0 => b0 _ _ _ ?_))
  refine ⟨0, by decide, rfl, ?_⟩
  have c0 : (hq_si h 13 0 3 0).1 14 0 0 = nI w.1.1 := R0.1.1.1
  unfold hz_mean
  refine hq_nc (fun c => ?_) (fun c => ?_)
  · have c : ¬ (hq_si h 13 0 3 0).1 14 0 0 = 0 := c
    rw [c0] at c
    have n0 : ¬ w.1.1 = 0 := fun z => c (by rw [z]; rfl)
    have l90 : hz_prs w.1 ≤ 90 := hz_cost_90 ok.1 _
    obtain ⟨q, hq⟩ : ∃ q, w.1.1 = q + 1 := ⟨w.1.1 - 1, by omega⟩
    have nn := hz_fv_n q (by omega) (hz_prs w.1) (by omega)
    rw [← hq] at nn
    unfold hz_fv at nn ⊢
    rw [if_neg n0]
    rw [← c0] at nn ⊢
    exact ⟨_, _, m_sof (d + 6) (hq_si h 13 0 3 0) w.1 R0.1.1 ok.1, 0, by decide, rfl, nn, rfl, rfl⟩
  · have c : (hq_si h 13 0 3 0).1 14 0 0 = 0 := c
    rw [c0] at c
    have n0 : w.1.1 = 0 := (nI_eq (b := 0) (by omega) (by decide)).mp c
    rw [if_pos n0]
    exact ⟨rfl, rfl⟩
-- ===== the reference: looks that may be refused =====
theorem r_of (d : Nat) (h : hq_H) (w : hz_W) (R : hm_RM h w) (ok : hz_okW w) (x : Int32) (a : Nat) (ha : a < 6) : hm_AnsI MX7_of (d + 5) [.inr (13, 0), hz_i x, hz_i (nI a)] h hz_IOB (sp_attr w x a) := by
  have n10 := ok.1.1
  have mr := m_isRule (d + 2) w.1.1 x h R.1.1.1 n10
  have R0 := hm_RM_th 0 R ok
  unfold sp_attr
  cases hx : hz_ix x w.1.1 with
  | none =>
    rw [hx] at mr
    refine hm_noI (v := 0) R ok (x := 1) (by decide) ?_
    refine inX7_of (d + 4) 0 x _ h _ _ (fun _ => trivial) (fun J b0 => b0 _ _ _ ?_)
    exact ⟨_, _, mr, _, _, m_goes (d + 3) false true true h, hq_bt rfl ⟨rfl, rfl⟩⟩
  | some k =>
    rw [hx] at mr
    obtain ⟨rfl, hk⟩ := hz_ix_s (by omega) hx
    refine ⟨_, _, ?_, R0, hw_Mo_13 h 3 0, hm_th1 h 0, rfl⟩
    refine inX7_of (d + 4) 0 (nI k) _ h _ _ (fun _ => trivial) (fun J b0 => b0 _ _ _ ?_)
    refine ⟨_, _, mr, _, _, m_goes (d + 3) true true true h, hq_bf hz_one0 ?_⟩
    refine ⟨_, _, m_at (d + 3) k _, ?_⟩
    exact ⟨5 + 6 * k + a, by omega, nI_add (5 + 6 * k) a, hz_ri (R0.1.1.2.2.2.2.2 k hk a ha).symm, rfl⟩
theorem r_shouldBeLet (d : Nat) (h : hq_H) (w : hz_W) (R : hm_RM h w) (ok : hz_okW w) (x : Int32) : hm_Ans MX7_shouldBeLet (d + 6) [.inr (13, 0), hz_i x] h hz_IOB (sp_attr w x 0) := by
  obtain ⟨h', v, m, r⟩ := r_of d h w R ok x 0 (by decide)
  exact ⟨h', _, inX7_shouldBeLet (d + 5) 0 x h (hz_o v) h' (fun _ => trivial) (fun J b0 => b0 _ _ _ ⟨_, _, m, rfl, rfl⟩), r⟩
theorem r_shouldBeEmpty (d : Nat) (h : hq_H) (w : hz_W) (R : hm_RM h w) (ok : hz_okW w) (x : Int32) : hm_Ans MX7_shouldBeEmpty (d + 6) [.inr (13, 0), hz_i x] h hz_IOB (sp_attr w x 1) := by
  obtain ⟨h', v, m, r⟩ := r_of d h w R ok x 1 (by decide)
  exact ⟨h', _, inX7_shouldBeEmpty (d + 5) 0 x h (hz_o v) h' (fun _ => trivial) (fun J b0 => b0 _ _ _ ⟨_, _, m, rfl, rfl⟩), r⟩
theorem r_fine (d : Nat) (h : hq_H) (w : hz_W) (R : hm_RM h w) (ok : hz_okW w) (x : Int32) : hm_Ans MX7_fine (d + 6) [.inr (13, 0), hz_i x] h hz_IOB (sp_attr w x 2) := by
  obtain ⟨h', v, m, r⟩ := r_of d h w R ok x 2 (by decide)
  exact ⟨h', _, inX7_fine (d + 5) 0 x h (hz_o v) h' (fun _ => trivial) (fun J b0 => b0 _ _ _ ⟨_, _, m, rfl, rfl⟩), r⟩
theorem r_finesOf (d : Nat) (h : hq_H) (w : hz_W) (R : hm_RM h w) (ok : hz_okW w) (x : Int32) : hm_Ans MX7_finesOf (d + 6) [.inr (13, 0), hz_i x] h hz_IOB (sp_attr w x 5) := by
  obtain ⟨h', v, m, r⟩ := r_of d h w R ok x 5 (by decide)
  exact ⟨h', _, inX7_finesOf (d + 5) 0 x h (hz_o v) h' (fun _ => trivial) (fun J b0 => b0 _ _ _ ⟨_, _, m, rfl, rfl⟩), r⟩
theorem r_isStrict (d : Nat) (h : hq_H) (w : hz_W) (R : hm_RM h w) (ok : hz_okW w) (x : Int32) : hm_Ans MX7_isStrict (d + 6) [.inr (13, 0), hz_i x] h hz_IOB (sp_attr w x 3) := by
  obtain ⟨h', v, m, r1, r2, r3⟩ := r_of d h w R ok x 3 (by decide)
  refine ⟨h', .int (hz_b (decide (v = 1))), ?_, r1, r2, ?_⟩
  · refine inX7_isStrict (d + 5) 0 x h _ h' (fun _ => trivial) (fun J b0 => b0 _ _ _ ⟨_, _, m, ?_⟩)
    refine hq_nc (fun c => ?_) (fun c => ?_)
    · rw [decide_eq_false c]
      exact ⟨Or.inl rfl, rfl, rfl⟩
    · rw [decide_eq_true c]
      exact ⟨Or.inr rfl, rfl, rfl⟩
  · revert r3
    unfold sp_attr
    cases hx : hz_ix x w.1.1 with
    | none => exact fun z => ⟨z.1, _, rfl⟩
    | some k =>
      intro z
      obtain ⟨z1, z2⟩ := z
      refine ⟨z1, ?_⟩
      have z2 : Value.int v = Value.int (w.1.2.1 k 3) := z2
      have e : v = w.1.2.1 k 3 := by injection z2
      have hk := (hz_ix_s (show w.1.1 < 2 ^ 31 by have := ok.1.1; omega) hx).2
      rw [e, hz_b3 (ok.1.s k hk)]
theorem r_waivedFor (d : Nat) (h : hq_H) (w : hz_W) (R : hm_RM h w) (ok : hz_okW w) (x : Int32) : hm_Ans MX7_waivedFor (d + 5) [.inr (13, 0), hz_i x] h hz_IOB (sp_waivedFor w x) := by
  have n10 := ok.1.1
  have mr := m_isRule (d + 2) w.1.1 x h R.1.1.1 n10
  have R0 := hm_RM_th 0 R ok
  unfold sp_waivedFor
  cases hx : hz_ix x w.1.1 with
  | none =>
    rw [hx] at mr
    refine hm_no (v := .int 0) R ok (x := 1) (by decide) ?_
    refine inX7_waivedFor (d + 4) 0 x h _ _ (fun _ => trivial) (fun J b0 => b0 _ _ _ ?_)
    exact ⟨_, _, mr, _, _, m_goes (d + 3) false true true h, hq_bt rfl ⟨rfl, rfl⟩⟩
  | some k =>
    rw [hx] at mr
    obtain ⟨rfl, hk⟩ := hz_ix_s (by omega) hx
    refine hm_look0 R ok (inX7_waivedFor (d + 4) 0 (nI k) h _ _ (fun _ => trivial) (fun J b0 => b0 _ _ _ ?_))
    refine ⟨_, _, mr, _, _, m_goes (d + 3) true true true h, hq_bf hz_one0 ?_⟩
    exact ⟨_, _, m_waived (d + 2) k _ w.1 R0.1.1 n10 hk, rfl, rfl⟩
theorem r_holdsIn (d : Nat) (h : hq_H) (w : hz_W) (R : hm_RM h w) (ok : hz_okW w) (x y : Int32) : hm_Ans MX7_holdsIn (d + 5) [.inr (13, 0), hz_i x, hz_i y] h hz_IOB (sp_holdsIn w x y) := by
  have n10 := ok.1.1
  have mr := m_isRule (d + 2) w.1.1 x h R.1.1.1 n10
  have R0 := hm_RM_th 0 R ok
  have mi := m_in (d + 3) y 0 63 h
  rw [show (decide (0 ≤ y) && decide (y ≤ 63)) = (hz_ix y 64).isSome from hm_ix_in (m := 63) rfl (by decide)] at mi
  unfold sp_holdsIn
  cases hx : hz_ix x w.1.1 with
  | none =>
    rw [hx] at mr
    refine hm_no (v := .int 0) R ok (x := 1) (by decide) ?_
    refine inX7_holdsIn (d + 4) 0 x y h _ _ (fun _ => trivial) (fun J b0 => b0 _ _ _ ?_)
    exact ⟨_, _, mr, _, _, mi, _, _, m_goes (d + 3) false _ true h, hq_bt rfl ⟨Or.inl rfl, rfl, rfl⟩⟩
  | some k =>
    rw [hx] at mr
    obtain ⟨rfl, hk⟩ := hz_ix_s (by omega) hx
    dsimp only
    cases hy : hz_ix y 64 with
    | none =>
      rw [hy] at mi
      refine hm_no (v := .int 0) R ok (x := 2) (by decide) ?_
      refine inX7_holdsIn (d + 4) 0 (nI k) y h _ _ (fun _ => trivial) (fun J b0 => b0 _ _ _ ?_)
      exact ⟨_, _, mr, _, _, mi, _, _, m_goes (d + 3) true false true h, hq_bt rfl ⟨Or.inl rfl, rfl, rfl⟩⟩
    | some q =>
      rw [hy] at mi
      obtain ⟨rfl, hq⟩ := hz_ix_s (by omega) hy
      refine hm_look0 R ok (inX7_holdsIn (d + 4) 0 (nI k) (nI q) h _ _ (fun _ => trivial) (fun J b0 => b0 _ _ _ ?_))
      refine ⟨_, _, mr, _, _, mi, _, _, m_goes (d + 3) true true true h, hq_bf hz_one0 ?_⟩
      refine ⟨_, _, m_hold (d + 2) k _ w.1 R0.1.1 n10 hk rfl, ?_⟩
      cases hz_hold (w.1.2.1 k 0) (w.1.2.1 k 1) (nI q) with
      | false => exact hq_bt rfl ⟨Or.inl rfl, rfl, rfl⟩
      | true => exact hq_bf hz_one0 ⟨Or.inr rfl, rfl, rfl⟩
theorem r_refusedBy (d : Nat) (h : hq_H) (w : hz_W) (R : hm_RM h w) (ok : hz_okW w) (x : Int32) : hm_Ans MX7_refusedBy (d + 5) [.inr (13, 0), hz_i x] h hz_IOB (sp_refusedBy w x) := by
  have n10 := ok.1.1
  have mr := m_isRoom (d + 2) x h
  have R0 := hm_RM_th 0 R ok
  unfold sp_refusedBy
  cases hx : hz_ix x 6 with
  | none =>
    rw [hx] at mr
    refine hm_no (v := .int 0) R ok (x := 1) (by decide) ?_
    refine inX7_refusedBy (d + 4) 0 x h _ _ (fun _ => trivial) (fun J b0 => b0 _ _ _ ?_)
    exact ⟨_, _, mr, _, _, m_goes (d + 3) false true true h, hq_bt rfl ⟨rfl, rfl⟩⟩
  | some k =>
    rw [hx] at mr
    obtain ⟨rfl, hk⟩ := hz_ix_s (by omega) hx
    refine hm_look0 R ok (inX7_refusedBy (d + 4) 0 (nI k) h _ _ (fun _ => trivial) (fun J b0 => b0 _ _ _ ?_))
    refine ⟨_, _, mr, _, _, m_goes (d + 3) true true true h, hq_bf hz_one0 ?_⟩
    exact ⟨_, _, m_ref (d + 1) (nI k) _ w.1 R0.1.1 n10, rfl, rfl⟩
theorem r_forced (d : Nat) (h : hq_H) (w : hz_W) (R : hm_RM h w) (ok : hz_okW w) (x : Int32) : hm_Ans MX7_forced (d + 6) [.inr (13, 0), hz_i x] h hz_IOB (sp_forced w x) := by
  have n10 := ok.1.1
  have mr := m_isRoom (d + 3) x h
  have R0 := hm_RM_th 0 R ok
  unfold sp_forced
  cases hx : hz_ix x 6 with
  | none =>
    rw [hx] at mr
    refine hm_no (v := .int 0) R ok (x := 1) (by decide) ?_
    refine inX7_forced (d + 5) 0 x h _ _ (fun _ => trivial) (fun J b0 => b0 _ _ _ ?_)
    exact ⟨_, _, mr, _, _, m_goes (d + 4) false true true h, hq_bt rfl ⟨rfl, rfl⟩⟩
  | some k =>
    rw [hx] at mr
    obtain ⟨rfl, hk⟩ := hz_ix_s (by omega) hx
    refine hm_lookL R ok (inX7_forced (d + 5) 0 (nI k) h _ _ (fun _ => trivial) (fun J b0 => b0 _ _ _ ?_))
    refine ⟨_, _, mr, _, _, m_goes (d + 4) true true true h, hq_bf hz_one0 ?_⟩
    exact ⟨_, _, m_alike d k _ w.1 R0.1 ok.1 hk, rfl, rfl⟩
theorem r_follows (d : Nat) (h : hq_H) (w : hz_W) (R : hm_RM h w) (ok : hz_okW w) (x : Int32) : hm_Ans MX7_follows (d + 5) [.inr (13, 0), hz_i x] h hz_IOB (sp_follows w x) := by
  have n10 := ok.1.1
  have mr := m_isRule (d + 2) w.1.1 x h R.1.1.1 n10
  have R0 := hm_RM_th 0 R ok
  unfold sp_follows
  cases hx : hz_ix x w.1.1 with
  | none =>
    rw [hx] at mr
    refine hm_no (v := .int 0) R ok (x := 1) (by decide) ?_
    refine inX7_follows (d + 4) 0 x h _ _ (fun _ => trivial) (fun J b0 => b0 _ _ _ ?_)
    exact ⟨_, _, mr, _, _, m_goes (d + 3) false true true h, hq_bt rfl ⟨Or.inl rfl, rfl, rfl⟩⟩
  | some k =>
    rw [hx] at mr
    obtain ⟨rfl, hk⟩ := hz_ix_s (by omega) hx
    refine hm_lookL R ok (inX7_follows (d + 4) 0 (nI k) h _ _ (fun _ => trivial) (fun J b0 => b0 _ _ _ ?_))
    refine ⟨_, _, mr, _, _, m_goes (d + 3) true true true h, hq_bf hz_one0 ?_⟩
    refine ⟨_, _, m_fol d k _ w.1 R0.1 ok.1 hk, ?_⟩
    cases hz_fol w.1 k with
    | false => exact hq_bt rfl ⟨Or.inl rfl, rfl, rfl⟩
    | true => exact hq_bf hz_one0 ⟨Or.inr rfl, rfl, rfl⟩
theorem r_followsBySplitting (d : Nat) (h : hq_H) (w : hz_W) (R : hm_RM h w) (ok : hz_okW w) (x : Int32) : hm_Ans MX7_followsBySplitting (d + 5) [.inr (13, 0), hz_i x] h hz_IOB (sp_follows w x) := by
  have n10 := ok.1.1
  have mr := m_isRule (d + 2) w.1.1 x h R.1.1.1 n10
  have R0 := hm_RM_th 0 R ok
  unfold sp_follows
  cases hx : hz_ix x w.1.1 with
  | none =>
    rw [hx] at mr
    refine hm_no (v := .int 0) R ok (x := 1) (by decide) ?_
    refine inX7_followsBySplitting (d + 4) 0 x h _ _ (fun _ => trivial) (fun J b0 => b0 _ _ _ ?_)
    exact ⟨_, _, mr, _, _, m_goes (d + 3) false true true h, hq_bt rfl ⟨Or.inl rfl, rfl, rfl⟩⟩
  | some k =>
    rw [hx] at mr
    obtain ⟨rfl, hk⟩ := hz_ix_s (by omega) hx
    refine hm_look0 R ok (inX7_followsBySplitting (d + 4) 0 (nI k) h _ _ (fun _ => trivial) (fun J b0 => b0 _ _ _ ?_))
    refine ⟨_, _, mr, _, _, m_goes (d + 3) true true true h, hq_bf hz_one0 ?_⟩
    refine ⟨_, _, m_fols d k _ w.1 R0.1.1 n10 hk, ?_⟩
    cases hz_fol w.1 k with
    | false => exact hq_bt rfl ⟨Or.inl rfl, rfl, rfl⟩
    | true => exact hq_bf hz_one0 ⟨Or.inr rfl, rfl, rfl⟩
theorem r_canStand (d : Nat) (h : hq_H) (w : hz_W) (R : hm_RM h w) (ok : hz_okW w) (x : Int32) : hm_Ans MX7_canStand (d + 5) [.inr (13, 0), hz_i x] h hz_IAE (sp_set w x (fun S => hz_b (hz_nz (hz_stand w.1 S)))) := by
  have n10 := ok.1.1
  have p10 := hz_p10 n10
  have mr := m_areRules (d + 3) w.1.1 x h R.1.1.1 n10
  have R0 := hm_RM_th 0 R ok
  unfold sp_set
  cases hx : hz_ix x (2 ^ w.1.1) with
  | none =>
    rw [hx] at mr
    refine hm_no (v := .int 0) R ok (x := 1) (by decide) ?_
    refine inX7_canStand (d + 4) 0 x h _ _ (fun _ => trivial) (fun J b0 => b0 _ _ _ ?_)
    exact ⟨_, _, mr, _, _, m_goes (d + 3) false true true h, hq_bt rfl ⟨Or.inl rfl, rfl, rfl⟩⟩
  | some S =>
    rw [hx] at mr
    obtain ⟨rfl, hS⟩ := hz_ix_s (by omega) hx
    refine hm_lookL R ok (inX7_canStand (d + 4) 0 (nI S) h _ _ (fun _ => trivial) (fun J b0 => b0 _ _ _ ?_))
    refine ⟨_, _, mr, _, _, m_goes (d + 3) true true true h, hq_bf hz_one0 ?_⟩
    refine ⟨_, _, m_stands d _ w.1 R0.1 ok.1 rfl (by omega), ?_⟩
    cases e : hz_nz (hz_stand w.1 S) with
    | false => exact hq_bt rfl ⟨Or.inl rfl, hz_rf (b := hz_nz (hz_stand w.1 S)) e, rfl⟩
    | true => exact hq_bf hz_one0 ⟨Or.inr rfl, hz_rb (b := hz_nz (hz_stand w.1 S)) e, rfl⟩
theorem r_canStandBySplitting (d : Nat) (h : hq_H) (w : hz_W) (R : hm_RM h w) (ok : hz_okW w) (x : Int32) : hm_Ans MX7_canStandBySplitting (d + 5) [.inr (13, 0), hz_i x] h hz_IAE (sp_set w x (fun S => hz_b (hz_nz (hz_stand w.1 S)))) := by
  have n10 := ok.1.1
  have p10 := hz_p10 n10
  have mr := m_areRules (d + 3) w.1.1 x h R.1.1.1 n10
  have R0 := hm_RM_th 0 R ok
  unfold sp_set
  cases hx : hz_ix x (2 ^ w.1.1) with
  | none =>
    rw [hx] at mr
    refine hm_no (v := .int 0) R ok (x := 1) (by decide) ?_
    refine inX7_canStandBySplitting (d + 4) 0 x h _ _ (fun _ => trivial) (fun J b0 => b0 _ _ _ ?_)
    exact ⟨_, _, mr, _, _, m_goes (d + 3) false true true h, hq_bt rfl ⟨Or.inl rfl, rfl, rfl⟩⟩
  | some S =>
    rw [hx] at mr
    obtain ⟨rfl, hS⟩ := hz_ix_s (by omega) hx
    refine hm_look0 R ok (inX7_canStandBySplitting (d + 4) 0 (nI S) h _ _ (fun _ => trivial) (fun J b0 => b0 _ _ _ ?_))
    refine ⟨_, _, mr, _, _, m_goes (d + 3) true true true h, hq_bf hz_one0 ?_⟩
    refine ⟨_, _, m_splits (d + 1) _ w.1 R0.1.1 n10 rfl (by omega), ?_⟩
    cases e : hz_nz (hz_stand w.1 S) with
    | false => exact hq_bt rfl ⟨Or.inl rfl, hz_rf (b := hz_nz (hz_stand w.1 S)) e, rfl⟩
    | true => exact hq_bf hz_one0 ⟨Or.inr rfl, hz_rb (b := hz_nz (hz_stand w.1 S)) e, rfl⟩
theorem r_finesIn (d : Nat) (h : hq_H) (w : hz_W) (R : hm_RM h w) (ok : hz_okW w) (x : Int32) : hm_Ans MX7_finesIn (d + 5) [.inr (13, 0), hz_i x] h hz_IAE (sp_finesIn w x) := by
  have n10 := ok.1.1
  have mi := m_in (d + 3) x 1 30 h
  rw [hm_nn_in] at mi
  have R0 := hm_RM_th 0 R ok
  unfold sp_finesIn
  cases hx : hz_nn x with
  | none =>
    rw [hx] at mi
    refine hm_no (v := .int 0) R ok (x := 1) (by decide) ?_
    refine inX7_finesIn (d + 4) 0 x h _ _ (fun _ => trivial) (fun J b0 => b0 _ _ _ ?_)
    exact ⟨_, _, mi, _, _, m_goes (d + 3) false true true h, hq_bt rfl ⟨rfl, rfl⟩⟩
  | some k =>
    rw [hx] at mi
    obtain ⟨rfl, k1, k30⟩ := hz_nn_s hx
    refine hm_look0 R ok (inX7_finesIn (d + 4) 0 (nI k) h _ _ (fun _ => trivial) (fun J b0 => b0 _ _ _ ?_))
    refine ⟨_, _, mi, _, _, m_goes (d + 3) true true true h, hq_bf hz_one0 ?_⟩
    exact ⟨_, _, m_ahead (d + 1) _ w.1 R0.1.1 n10 rfl k30, rfl, rfl⟩
