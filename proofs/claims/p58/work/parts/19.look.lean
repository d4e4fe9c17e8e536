/-- an answer that changes nothing -/
theorem hz_same {M : hq_M} {d : Nat} {args : List hq_V} {h : hq_H} {w : hz_W} {r : hq_R} (H : hz_RC h w) (m : hq_Met d M args h r h) : hz_Ans M d args h (r, w) := ⟨h, m, H, hw_stay_rf⟩
theorem t_rules (d : Nat) (h : hq_H) (w : hz_W) (H : hz_RC h w) : hz_Ans MX6_rules (d + 5) [.inr (3, 0)] h (hz_o (nI w.1.1), w) := by
  refine hz_same H ?_
  refine inX6_rules (d + 4) 0 h _ _ (fun _ => trivial) (fun J b0 => b0 _ _ _ ?_)
  exact ⟨hz_ri (H.1.1).symm, rfl⟩
theorem t_way (d : Nat) (h : hq_H) (w : hz_W) (H : hz_RC h w) : hz_Ans MX6_way (d + 5) [.inr (3, 0)] h (hz_o (w.1.2.2.1), w) := by
  refine hz_same H ?_
  refine inX6_way (d + 4) 0 h _ _ (fun _ => trivial) (fun J b0 => b0 _ _ _ ?_)
  exact ⟨hz_ri (H.1.2.1).symm, rfl⟩
theorem t_day (d : Nat) (h : hq_H) (w : hz_W) (H : hz_RC h w) : hz_Ans MX6_day (d + 5) [.inr (3, 0)] h (hz_o (w.1.2.2.2.1), w) := by
  refine hz_same H ?_
  refine inX6_day (d + 4) 0 h _ _ (fun _ => trivial) (fun J b0 => b0 _ _ _ ?_)
  exact ⟨hz_ri (H.1.2.2.1).symm, rfl⟩
theorem t_fines (d : Nat) (h : hq_H) (w : hz_W) (H : hz_RC h w) : hz_Ans MX6_fines (d + 5) [.inr (3, 0)] h (hz_o (w.1.2.2.2.2.1), w) := by
  refine hz_same H ?_
  refine inX6_fines (d + 4) 0 h _ _ (fun _ => trivial) (fun J b0 => b0 _ _ _ ?_)
  exact ⟨hz_ri (H.1.2.2.2.1).symm, rfl⟩
def sp_attr (w : hz_W) (x : Int32) (a : Nat) : hz_X := match hz_ix x w.1.1 with
  | none => (.inr hz_IOB, w)
  | some k => (hz_o (w.1.2.1 k a), w)
theorem t_shouldBeLet (d : Nat) (h : hq_H) (w : hz_W) (H : hz_RC h w) (x : Int32) : hz_Ans MX6_shouldBeLet (d + 5) [.inr (3, 0), hz_i x] h (sp_attr w x 0) := by
  have n10 := H.2.1.1
  unfold sp_attr
  cases hx : hz_ix x w.1.1 with
  | none =>
    refine hz_same H (inX6_shouldBeLet (d + 4) 0 x h _ _ (fun _ => trivial) (fun J b0 => b0 _ _ _ ?_))
    exact Or.inr ⟨_, x_X6_requireRule_n (d + 3) w.1.1 x h hx H.1.1, rfl⟩
  | some k =>
    obtain ⟨rfl, hk⟩ := hz_ix_s (by omega) hx
    refine hz_same H (inX6_shouldBeLet (d + 4) 0 _ h _ _ (fun _ => trivial) (fun J b0 => b0 _ _ _ ?_))
    refine Or.inl ⟨_, x_X6_requireRule_y (d + 3) k w.1.1 h hk n10 H.1.1, ?_⟩
    refine ⟨_, _, x_X0_at (d + 3) 0 (show k < 10 by omega) h, ?_⟩
    have e : h.1 1 (11 * 0 + k) 0 = w.1.2.1 k 0 := (H.1.2.2.2.2.2 k hk).1 0 (by decide)
    exact ⟨hz_ri e.symm, rfl⟩
theorem t_shouldBeEmpty (d : Nat) (h : hq_H) (w : hz_W) (H : hz_RC h w) (x : Int32) : hz_Ans MX6_shouldBeEmpty (d + 5) [.inr (3, 0), hz_i x] h (sp_attr w x 1) := by
  have n10 := H.2.1.1
  unfold sp_attr
  cases hx : hz_ix x w.1.1 with
  | none =>
    refine hz_same H (inX6_shouldBeEmpty (d + 4) 0 x h _ _ (fun _ => trivial) (fun J b0 => b0 _ _ _ ?_))
    exact Or.inr ⟨_, x_X6_requireRule_n (d + 3) w.1.1 x h hx H.1.1, rfl⟩
  | some k =>
    obtain ⟨rfl, hk⟩ := hz_ix_s (by omega) hx
    refine hz_same H (inX6_shouldBeEmpty (d + 4) 0 _ h _ _ (fun _ => trivial) (fun J b0 => b0 _ _ _ ?_))
    refine Or.inl ⟨_, x_X6_requireRule_y (d + 3) k w.1.1 h hk n10 H.1.1, ?_⟩
    refine ⟨_, _, x_X0_at (d + 3) 0 (show k < 10 by omega) h, ?_⟩
    have e : h.1 1 (11 * 0 + k) 1 = w.1.2.1 k 1 := (H.1.2.2.2.2.2 k hk).1 1 (by decide)
    exact ⟨hz_ri e.symm, rfl⟩
theorem t_fine (d : Nat) (h : hq_H) (w : hz_W) (H : hz_RC h w) (x : Int32) : hz_Ans MX6_fine (d + 5) [.inr (3, 0), hz_i x] h (sp_attr w x 2) := by
  have n10 := H.2.1.1
  unfold sp_attr
  cases hx : hz_ix x w.1.1 with
  | none =>
    refine hz_same H (inX6_fine (d + 4) 0 x h _ _ (fun _ => trivial) (fun J b0 => b0 _ _ _ ?_))
    exact Or.inr ⟨_, x_X6_requireRule_n (d + 3) w.1.1 x h hx H.1.1, rfl⟩
  | some k =>
    obtain ⟨rfl, hk⟩ := hz_ix_s (by omega) hx
    refine hz_same H (inX6_fine (d + 4) 0 _ h _ _ (fun _ => trivial) (fun J b0 => b0 _ _ _ ?_))
    refine Or.inl ⟨_, x_X6_requireRule_y (d + 3) k w.1.1 h hk n10 H.1.1, ?_⟩
    refine ⟨_, _, x_X0_at (d + 3) 0 (show k < 10 by omega) h, ?_⟩
    have e : h.1 1 (11 * 0 + k) 2 = w.1.2.1 k 2 := (H.1.2.2.2.2.2 k hk).1 2 (by decide)
    exact ⟨hz_ri e.symm, rfl⟩
theorem t_isStrict (d : Nat) (h : hq_H) (w : hz_W) (H : hz_RC h w) (x : Int32) : hz_Ans MX6_isStrict (d + 5) [.inr (3, 0), hz_i x] h (sp_attr w x 3) := by
  have n10 := H.2.1.1
  unfold sp_attr
  cases hx : hz_ix x w.1.1 with
  | none =>
    refine hz_same H (inX6_isStrict (d + 4) 0 x h _ _ (fun _ => trivial) (fun J b0 => b0 _ _ _ ?_))
    exact Or.inr ⟨_, x_X6_requireRule_n (d + 3) w.1.1 x h hx H.1.1, rfl⟩
  | some k =>
    obtain ⟨rfl, hk⟩ := hz_ix_s (by omega) hx
    refine hz_same H (inX6_isStrict (d + 4) 0 _ h _ _ (fun _ => trivial) (fun J b0 => b0 _ _ _ ?_))
    refine Or.inl ⟨_, x_X6_requireRule_y (d + 3) k w.1.1 h hk n10 H.1.1, ?_⟩
    refine ⟨_, _, x_X0_at (d + 3) 0 (show k < 10 by omega) h, ?_⟩
    have e : h.1 1 (11 * 0 + k) 3 = w.1.2.1 k 3 := (H.1.2.2.2.2.2 k hk).1 3 (by decide)
    exact ⟨by rw [show h.1 1 (1, 11 * 0 + k).2 3 = w.1.2.1 k 3 from e]; exact H.2.1.s k hk, hz_ri e.symm, rfl⟩
theorem t_finesOf (d : Nat) (h : hq_H) (w : hz_W) (H : hz_RC h w) (x : Int32) : hz_Ans MX6_finesOf (d + 5) [.inr (3, 0), hz_i x] h (sp_attr w x 5) := by
  have n10 := H.2.1.1
  unfold sp_attr
  cases hx : hz_ix x w.1.1 with
  | none =>
    refine hz_same H (inX6_finesOf (d + 4) 0 x h _ _ (fun _ => trivial) (fun J b0 => b0 _ _ _ ?_))
    exact Or.inr ⟨_, x_X6_requireRule_n (d + 3) w.1.1 x h hx H.1.1, rfl⟩
  | some k =>
    obtain ⟨rfl, hk⟩ := hz_ix_s (by omega) hx
    refine hz_same H (inX6_finesOf (d + 4) 0 _ h _ _ (fun _ => trivial) (fun J b0 => b0 _ _ _ ?_))
    refine Or.inl ⟨_, x_X6_requireRule_y (d + 3) k w.1.1 h hk n10 H.1.1, ?_⟩
    refine ⟨_, _, x_X0_at (d + 3) 0 (show k < 10 by omega) h, ?_⟩
    have e : h.1 1 (11 * 0 + k) 5 = w.1.2.1 k 5 := (H.1.2.2.2.2.2 k hk).1 5 (by decide)
    exact ⟨hz_ri e.symm, rfl⟩
def sp_waivedFor (w : hz_W) (x : Int32) : hz_X := match hz_ix x w.1.1 with
  | none => (.inr hz_IOB, w)
  | some k => (hz_o (hz_wd (w.1.2.1 k 4 - w.1.2.2.2.1)), w)
theorem t_waivedFor (d : Nat) (h : hq_H) (w : hz_W) (H : hz_RC h w) (x : Int32) : hz_Ans MX6_waivedFor (d + 5) [.inr (3, 0), hz_i x] h (sp_waivedFor w x) := by
  have n10 := H.2.1.1
  unfold sp_waivedFor
  cases hx : hz_ix x w.1.1 with
  | none =>
    refine hz_same H (inX6_waivedFor (d + 4) 0 x h _ _ (fun _ => trivial) (fun J b0 => b0 _ _ _ ?_))
    exact Or.inr ⟨_, x_X6_requireRule_n (d + 3) w.1.1 x h hx H.1.1, rfl⟩
  | some k =>
    obtain ⟨rfl, hk⟩ := hz_ix_s (by omega) hx
    refine hz_same H (inX6_waivedFor (d + 4) 0 _ h _ _ (fun _ => trivial) (fun J b0 => b0 _ _ _ ?_))
    refine Or.inl ⟨_, x_X6_requireRule_y (d + 3) k w.1.1 h hk n10 H.1.1, ?_⟩
    have m := x_X0_daysWaived (d + 2) 0 k h (by omega)
    rw [H.1.2.2.1, (H.1.2.2.2.2.2 k hk).1 4 (by decide)] at m
    exact ⟨_, _, m, rfl, rfl⟩
def sp_holdsIn (w : hz_W) (x y : Int32) : hz_X := match hz_ix x w.1.1 with
  | none => (.inr hz_IOB, w)
  | some k => match hz_ix y 64 with
    | none => (.inr hz_IAE, w)
    | some q => (hz_o (hz_b (hz_hold (w.1.2.1 k 0) (w.1.2.1 k 1) (nI q))), w)
theorem hz_bz (b : Bool) : hz_b b = 0 ∨ hz_b b = 1 := by cases b <;> first | exact Or.inl rfl | exact Or.inr rfl
theorem t_holdsIn (d : Nat) (h : hq_H) (w : hz_W) (H : hz_RC h w) (x y : Int32) : hz_Ans MX6_holdsIn (d + 5) [.inr (3, 0), hz_i x, hz_i y] h (sp_holdsIn w x y) := by
  have n10 := H.2.1.1
  unfold sp_holdsIn
  cases hx : hz_ix x w.1.1 with
  | none =>
    refine hz_same H (inX6_holdsIn (d + 4) 0 x y h _ _ (fun _ => trivial) (fun J b0 b15 => b0 _ _ _ ?_))
    exact Or.inr ⟨_, x_X6_requireRule_n (d + 3) w.1.1 x h hx H.1.1, rfl⟩
  | some k =>
    obtain ⟨rfl, hk⟩ := hz_ix_s (by omega) hx
    dsimp only
    cases hy : hz_ix y 64 with
    | none =>
      refine hz_same H (inX6_holdsIn (d + 4) 0 _ y h _ _ (fun _ => trivial) (fun J b0 b15 => b0 _ _ _ ?_))
      refine Or.inl ⟨_, x_X6_requireRule_y (d + 3) k w.1.1 h hk n10 H.1.1, ?_⟩
      exact hq_bc (fun _ => b15 _ _ _ ⟨rfl, rfl⟩) (fun c1 => hq_bf (fun c2 => hz_ix_n hy ⟨Int32.not_lt.mp c1, c2⟩) (b15 _ _ _ ⟨rfl, rfl⟩))
    | some q =>
      obtain ⟨rfl, hq⟩ := hz_ix_s (by omega) hy
      refine hz_same H (inX6_holdsIn (d + 4) 0 _ _ h _ _ (fun _ => trivial) (fun J b0 b15 => b0 _ _ _ ?_))
      refine Or.inl ⟨_, x_X6_requireRule_y (d + 3) k w.1.1 h hk n10 H.1.1, ?_⟩
      refine hq_bf (nI_pos (by omega)) (hq_bt (hz_lt (b := 64) rfl rfl hq (by omega)) ?_)
      have e := (H.1.2.2.2.2.2 k hk).1
      refine ⟨_, _, x_X0_at (d + 3) 0 (show k < 10 by omega) h, ?_⟩
      refine ⟨_, _, x_hold (d + 3) (11 * 0 + k) (nI q) _ _ h (e 0 (by decide)) (e 1 (by decide)), ?_⟩
      exact ⟨hz_bz _, rfl, rfl⟩
def hz_force (st : hz_St) : Nat := hz_mk (hz_inF st.2.1 st.2.2.2.1) st.1
def hz_broke (st : hz_St) (way : Int32) : Nat := hz_mk (hz_brk st.2.1 st.2.2.2.1 way) st.1
theorem x_force (d : Nat) (h : hq_H) (st : hz_St) (H : hz_HC h 0 st) (hn : st.1 ≤ 10) {day : Int32} (hd : day = st.2.2.2.1) : hq_Met (d + 2) MX0_rulesInForce [.inr (0, 0), hz_i day] h (hz_o (nI (hz_force st))) h := by
  subst hd
  exact x_X0_rulesInForce d 0 _ h st.1 st.2.1 hn H.1 (fun k hk => (H.2.2.2.2.2 k hk).1)
theorem x_broke (d : Nat) (h : hq_H) (st : hz_St) (H : hz_HC h 0 st) (hn : st.1 ≤ 10) {way day : Int32} (hd : day = st.2.2.2.1) : hq_Met (d + 2) MX0_rulesBroken [.inr (0, 0), hz_i way, hz_i day] h (hz_o (nI (hz_broke st way))) h := by
  subst hd
  exact x_X0_rulesBroken d 0 way _ h st.1 st.2.1 hn H.1 (fun k hk => (H.2.2.2.2.2 k hk).1)
theorem t_inForce (d : Nat) (h : hq_H) (w : hz_W) (H : hz_RC h w) : hz_Ans MX6_inForce (d + 5) [.inr (3, 0)] h (hz_o (nI (hz_force w.1)), w) := by
  refine hz_same H (inX6_inForce (d + 4) 0 h _ _ (fun _ => trivial) (fun J b0 => b0 _ _ _ ?_))
  exact ⟨_, _, x_force (d + 2) h w.1 H.1 H.2.1.1 H.1.2.2.1, rfl, rfl⟩
theorem t_broken (d : Nat) (h : hq_H) (w : hz_W) (H : hz_RC h w) : hz_Ans MX6_broken (d + 5) [.inr (3, 0)] h (hz_o (nI (hz_broke w.1 w.1.2.2.1)), w) := by
  refine hz_same H (inX6_broken (d + 4) 0 h _ _ (fun _ => trivial) (fun J b0 => b0 _ _ _ ?_))
  exact ⟨_, _, x_broke (d + 2) h w.1 H.1 H.2.1.1 H.1.2.2.1, hz_ri (congrArg (fun g => nI (hz_broke w.1 g)) H.1.2.1.symm), rfl⟩
theorem x_ref (d : Nat) (h : hq_H) (st : hz_St) (H : hz_HC h 0 st) (hok : hz_okS st) (room : Int32) : hq_Met (d + 2) MX0_refuser [.inr (0, 0), hz_i room] h (hz_o (hz_rfs st room)) h := by
  have m := x_X0_refuser d 0 room h st.1 st.2.1 hok.1 H.1 (fun k hk => (H.2.2.2.2.2 k hk).1) hok.s
  rw [H.2.1, H.2.2.1] at m
  exact m
def sp_refusedBy (w : hz_W) (x : Int32) : hz_X := match hz_ix x 6 with
  | none => (.inr hz_IOB, w)
  | some k => (hz_o (hz_rfs w.1 (nI k)), w)
theorem t_refusedBy (d : Nat) (h : hq_H) (w : hz_W) (H : hz_RC h w) (x : Int32) : hz_Ans MX6_refusedBy (d + 5) [.inr (3, 0), hz_i x] h (sp_refusedBy w x) := by
  unfold sp_refusedBy
  cases hx : hz_ix x 6 with
  | none =>
    refine hz_same H (inX6_refusedBy (d + 4) 0 x h _ _ (fun _ => trivial) (fun J b0 => b0 _ _ _ ?_))
    exact Or.inr ⟨_, x_X6_requireRoom_n (d + 3) x h hx, rfl⟩
  | some k =>
    obtain ⟨rfl, hk⟩ := hz_ix_s (by omega) hx
    refine hz_same H (inX6_refusedBy (d + 4) 0 _ h _ _ (fun _ => trivial) (fun J b0 => b0 _ _ _ ?_))
    refine Or.inl ⟨_, x_X6_requireRoom_y (d + 3) k h hk, ?_⟩
    exact ⟨_, _, x_ref (d + 2) h w.1 H.1 H.2.1 (nI k), rfl, rfl⟩
theorem t_finesByRules (d : Nat) (h : hq_H) (w : hz_W) (H : hz_RC h w) : hz_Ans MX6_finesByRules (d + 5) [.inr (3, 0)] h (hz_o (hz_acc w.1.2.1 w.1.2.2.2.2.2 w.1.1), w) := by
  refine hz_same H (inX6_finesByRules (d + 4) 0 h _ _ (fun _ => trivial) (fun J b0 => b0 _ _ _ ?_))
  have m := x_X0_accounts (d + 2) 0 h w.1.1 w.1.2.1 H.2.1.1 H.1.1 (fun k hk => (H.1.2.2.2.2.2 k hk).1)
  rw [H.1.2.2.2.2.1] at m
  exact ⟨_, _, m, rfl, rfl⟩
def hz_stand (st : hz_St) (S : Nat) : Int64 := hz_and (fun k => S.testBit k) (hz_held st.2.1) st.1
theorem x_ways (d : Nat) (h : hq_H) (st : hz_St) (H : hz_HC h 0 st) (hn : st.1 ≤ 10) {x : Int32} {S : Nat} (hx : x = nI S) (hS : S < 2 ^ 31) : hq_Met (d + 2) MX0_waysOf [.inr (0, 0), hz_i x] h (hz_ol (hz_stand st S)) h := by
  subst hx
  exact x_X0_waysOf d 0 S h st.1 st.2.1 hn hS H.1 (fun k hk => (H.2.2.2.2.2 k hk).2)
theorem hz_cmp0 (x : Int64) : (lg_cmp x 0 = 0) ↔ x = 0 := by
  unfold lg_cmp
  by_cases h1 : x > 0
  · rw [if_pos h1]
    refine ⟨fun z => absurd z (by decide), fun z => ?_⟩
    rw [z] at h1
    exact absurd h1 (by decide)
  · rw [if_neg h1]
    by_cases h2 : x = 0
    · rw [if_pos h2]
      exact ⟨fun _ => h2, fun _ => rfl⟩
    · rw [if_neg h2]
      exact ⟨fun z => absurd z (by decide), fun z => absurd z h2⟩
def sp_set (w : hz_W) (x : Int32) (f : Nat → Int32) : hz_X := match hz_ix x (2 ^ w.1.1) with
  | none => (.inr hz_IAE, w)
  | some S => (hz_o (f S), w)
def hz_nz (x : Int64) : Bool := !decide (x = 0)
theorem t_canStand (d : Nat) (h : hq_H) (w : hz_W) (H : hz_RC h w) (x : Int32) : hz_Ans MX6_canStand (d + 5) [.inr (3, 0), hz_i x] h (sp_set w x (fun S => hz_b (hz_nz (hz_stand w.1 S)))) := by
  have n10 := H.2.1.1
  have p10 := hz_p10 n10
  unfold sp_set
  cases hx : hz_ix x (2 ^ w.1.1) with
  | none =>
    refine hz_same H (inX6_canStand (d + 4) 0 x h _ _ (fun _ => trivial) (fun J b0 => b0 _ _ _ ?_))
    exact Or.inr ⟨_, x_X6_requireSet_n (d + 3) w.1.1 x h hx n10 H.1.1, rfl⟩
  | some S =>
    obtain ⟨rfl, hS⟩ := hz_ix_s (by omega) hx
    refine hz_same H (inX6_canStand (d + 4) 0 _ h _ _ (fun _ => trivial) (fun J b0 => b0 _ _ _ ?_))
    refine Or.inl ⟨_, x_X6_requireSet_y (d + 3) S w.1.1 h hS n10 H.1.1, ?_⟩
    refine ⟨_, _, x_ways (d + 2) h w.1 H.1 n10 rfl (by omega), ?_⟩
    refine hq_bc (fun c => ?_) (fun c => ?_)
    · exact ⟨Or.inl rfl, hz_rf (by unfold hz_nz; rw [decide_eq_true ((hz_cmp0 _).mp c)]; rfl), rfl⟩
    · exact ⟨Or.inr rfl, hz_rb (by unfold hz_nz; rw [decide_eq_false (fun z => c ((hz_cmp0 _).mpr z))]; rfl), rfl⟩
theorem x_peace (d : Nat) (h : hq_H) (st : hz_St) (H : hz_HC h 0 st) (hn : st.1 ≤ 10) : hq_Met (d + 3) MX0_peacefulWays [.inr (0, 0)] h (hz_ol (hz_peace st.2.1 st.1 st.2.2.2.1)) h := by
  have m := x_X0_peacefulWays d 0 h st.1 st.2.1 hn H.1 H.2.2.2.2.2
  rw [H.2.2.1] at m
  exact m
def sp_finesIn (w : hz_W) (x : Int32) : hz_X := match hz_nn x with
  | none => (.inr hz_IAE, w)
  | some k => (hz_o (hz_ahead w.1.2.1 w.1.1 w.1.2.2.2.1 w.1.2.2.1 k), w)
theorem x_ahead (d : Nat) (h : hq_H) (st : hz_St) (H : hz_HC h 0 st) (hn : st.1 ≤ 10) {x : Int32} {q : Nat} (hx : x = nI q) (hq : q ≤ 30) : hq_Met (d + 4) MX0_nightsAhead [.inr (0, 0), hz_i x] h (hz_o (hz_ahead st.2.1 st.1 st.2.2.2.1 st.2.2.1 q)) h := by
  subst hx
  have m := x_X0_nightsAhead d 0 q h st.1 st.2.1 hn hq H.1 (fun k hk => (H.2.2.2.2.2 k hk).1)
  rw [H.2.1, H.2.2.1] at m
  exact m
theorem t_finesIn (d : Nat) (h : hq_H) (w : hz_W) (H : hz_RC h w) (x : Int32) : hz_Ans MX6_finesIn (d + 5) [.inr (3, 0), hz_i x] h (sp_finesIn w x) := by
  unfold sp_finesIn
  cases hx : hz_nn x with
  | none =>
    refine hz_same H (inX6_finesIn (d + 4) 0 x h _ _ (fun _ => trivial) (fun J b0 => b0 _ _ _ ?_))
    exact Or.inr ⟨_, x_X6_requireNights_n (d + 3) x h hx, rfl⟩
  | some k =>
    obtain ⟨rfl, k1, k30⟩ := hz_nn_s hx
    refine hz_same H (inX6_finesIn (d + 4) 0 _ h _ _ (fun _ => trivial) (fun J b0 => b0 _ _ _ ?_))
    refine Or.inl ⟨_, x_X6_requireNights_y (d + 3) k h k1 k30, ?_⟩
    exact ⟨_, _, x_ahead d h w.1 H.1 H.2.1.1 rfl k30, rfl, rfl⟩
theorem x_night (d : Nat) (h : hq_H) (st : hz_St) (H : hz_HC h 0 st) (hn : st.1 ≤ 10) {way day : Int32} (hd : day = st.2.2.2.1) : hq_Met (d + 3) MX0_nightIn [.inr (0, 0), hz_i way, hz_i day] h (hz_o (hz_night st.2.1 st.1 st.2.2.2.1 way)) h := by
  subst hd
  exact x_X0_nightIn d 0 way _ h st.1 st.2.1 hn H.1 (fun k hk => (H.2.2.2.2.2 k hk).1)
theorem x_price (d : Nat) (h : hq_H) (st : hz_St) (H : hz_HC h 0 st) (hn : st.1 ≤ 10) {x : Int32} {S : Nat} (hx : x = nI S) (hS : S < 2 ^ 31) : hq_Met (d + 2) MX0_pricesOf [.inr (0, 0), hz_i x] h (hz_o (hz_sum (fun k => S.testBit k) (hz_price st.2.1) st.1)) h := by
  subst hx
  exact x_X0_pricesOf d 0 S h st.1 st.2.1 hn hS H.1 (fun k hk => (H.2.2.2.2.2 k hk).1 2 (by decide))
