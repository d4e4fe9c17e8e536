-- ===== the class's digest =====
def hd_m (a : Int64) (x : Int32) : Int64 := 31 * a + x.toInt64
def hd_b (a : Int64) (b : Bool) : Int64 := 31 * a + hz_lb b
def hd_l (a x : Int64) : Int64 := 31 * a + x
theorem hd_bm (a : Int64) (b : Bool) : hd_m a (hz_b b) = hd_b a b := by
  cases b with
  | true => rfl
  | false => rfl
theorem hd_ls {i : Nat} {K : hq_C} {ls ls' : hq_L} {x : Int64} {r : List hq_V} {h : hq_H} (e : hq_st2 ls i (.inl (.long x)) = ls') (k : K ls' r h) : hk_lstore i K ls (.inl (.long x) :: r) h := by
  subst e
  exact k
theorem x_mi (d : Nat) {q v : Int64} {x y : Int32} (e : x = y) (hv : v = hd_m q y) (h : hq_H) : hq_Met (d + 1) MX6_mix [hz_l q, hz_l x.toInt64] h (hz_ol v) h := by
  subst e
  subst hv
  exact x_X6_mix d q x.toInt64 h
theorem x_ml (d : Nat) {q v x y : Int64} (e : x = y) (hv : v = hd_l q y) (h : hq_H) : hq_Met (d + 1) MX6_mix [hz_l q, hz_l x] h (hz_ol v) h := by
  subst e
  subst hv
  exact x_X6_mix d q x h
theorem x_mb (d : Nat) {q v : Int64} {x : Int32} {b : Bool} (e : x = hz_b b) (hv : v = hd_b q b) (h : hq_H) : hq_Met (d + 1) MX6_mix_ [hz_l q, hz_i x] h (hz_ol v) h := by
  subst e
  subst hv
  exact x_X6_mix_ d q b h
def hd_rule (st : hz_St) (k : Nat) (a : Int64) : Int64 :=
  hd_b (hd_b (hd_m (hd_m (hd_m (hd_m (hd_m (hd_m a (st.2.1 k 0)) (st.2.1 k 1)) (st.2.1 k 2)) (st.2.1 k 3)) (hz_wd (st.2.1 k 4 - st.2.2.2.1))) (st.2.1 k 5)) (hz_fol st k)) (hz_fol st k)
def hd_rules (st : hz_St) (a : Int64) : Nat → Int64
  | 0 => hd_m a (nI st.1)
  | k + 1 => hd_rule st k (hd_rules st a k)
def hd_rooms (st : hz_St) (a : Int64) : Nat → Int64
  | 0 => a
  | k + 1 => hd_m (hd_m (hd_rooms st a k) (hz_rfs st (nI k))) (hz_com st k)
def hd_house (st : hz_St) (a : Int64) : Int64 := hd_m (hd_m (hd_rooms st (hd_m (hd_m (hd_m (hd_m a st.2.2.1) st.2.2.2.1) (nI (hz_force st))) (nI (hz_broke st st.2.2.1))) 6) st.2.2.2.2.1) (hz_acc st.2.1 st.2.2.2.2.2 st.1)
def hd_stand (st : hz_St) (a : Int64) : Int64 := hd_m (hd_m (hd_m (hd_m (hd_b (hd_b (hd_b a (hz_nz (hz_stand st (hz_force st)))) (hz_nz (hz_stand st (hz_force st)))) (!hj_in (hz_joined st (hz_force st)) 0)) (nI (hz_joined st (hz_force st)).1)) (nI (hz_many st))) (nI (hz_many st))) (hz_first st)
def hd_clash (st : hz_St) (a : Int64) : Int64 := hd_m (hd_m (hd_m (hd_m (hd_m (hd_m a (hz_small st)) (hz_scw st)) (hz_narrowed st)) (nI (hz_narrows st))) (nI (hz_few st 63))) (nI (hz_fws st))
def hd_peace (st : hz_St) (a : Int64) : Int64 := hd_m (hd_m (hd_m (hd_m (hd_m (hd_m (hd_m a (hz_tp st 64)) (hz_tg st)) (hz_night st.2.1 st.1 st.2.2.2.1 st.2.2.1)) (nI (hz_chp st 63))) (hz_night st.2.1 st.1 st.2.2.2.1 (nI (hz_chp st 63)))) (hz_bt st 6).1) (hz_ahead st.2.1 st.1 st.2.2.2.1 st.2.2.1 9)
def hd_buf (b : Nat → Nat) (a : Int64) : Nat → Int64
  | 0 => a
  | k + 1 => hd_m (hd_buf b a k) (nI (b k))
def hd_mb (st : hz_St) : Int32 := if st.1 = 0 then 0 else hz_mB (hz_prs st) st.1
def hd_rest (w : hz_W) (a : Int64) : Int64 := hd_buf w.2.2.2.2 (hd_m (hd_b (hd_m (hd_l (hd_m a (nI w.2.2.1.1)) (hz_sB (hz_many w.1))) (hd_mb w.1)) w.2.1.isSome) (nI w.2.2.2.1)) w.2.2.2.1
def hd_all (w : hz_W) : Int64 := hd_rest w (hd_peace w.1 (hd_clash w.1 (hd_stand w.1 (hd_house w.1 (hd_rules w.1 4211 w.1.1)))))

theorem x_dRules (d : Nat) (a : Int64) (h : hq_H) (st : hz_St) (H : hz_HC h 0 st) (hok : hz_okS st) : hq_Met (d + 14) MX6_digestRules [.inr (3, 0), hz_l a] h (hz_ol (hd_rules st a st.1)) h := by
  have n10 := hok.1
  refine inX6_digestRules (d + 13) 0 a h _ _ (fun _ => trivial) (fun J b0 b16 => b0 _ _ _ ?_)
  refine ⟨_, _, x_mi (d + 12) (v := hd_rules st a 0) H.1 rfl h, ?_⟩
  refine hq_up (P := fun k => ∀ v6, J 16 [some (.inr (3, 0)), some (hz_l a), none, some (hz_l (hd_rules st a k)), none, some (hz_i (nI k)), v6] [] h) st.1 (fun v6 => b16 _ _ _ (hq_bt (hz_le (a := st.1) (b := st.1) H.1 rfl (Nat.le_refl _) (by omega)) ⟨rfl, rfl⟩)) (fun k hk ih v6 => b16 _ _ _ ?_) 0 (Nat.zero_le _) none
  refine hq_bf (hz_nle (a := st.1) (b := k) H.1 rfl hk (by omega)) ?_
  have ea : ∀ x, x < 6 → h.1 1 (11 * 0 + k) x = st.2.1 k x := (H.2.2.2.2.2 k hk).1
  have e3 : h.1 1 (11 * 0 + k) 3 = hz_b (decide (st.2.1 k 3 = 1)) := by
    rw [ea 3 (by decide), hz_b3 (hok.s k hk)]
  have m5 : hq_Met (d + 13) MX0_daysWaived [.inr (0, 0), hz_i (nI k)] h (hz_o (hz_wd (st.2.1 k 4 - st.2.2.2.1))) h := by
    have m := x_X0_daysWaived (d + 11) 0 k h (by omega)
    rw [ea 4 (by decide), H.2.2.1] at m
    exact m
  have s : hd_rules st a (k + 1) = hd_rule st k (hd_rules st a k) := rfl
  rw [s, nI_succ k] at ih
  unfold hd_rule at ih
  generalize hd_rules st a k = q at ih ⊢
  obtain ⟨q0, e10⟩ : ∃ z, z = hd_m q (st.2.1 k 0) := ⟨_, rfl⟩
  obtain ⟨q1, e11⟩ : ∃ z, z = hd_m q0 (st.2.1 k 1) := ⟨_, rfl⟩
  obtain ⟨q2, e12⟩ : ∃ z, z = hd_m q1 (st.2.1 k 2) := ⟨_, rfl⟩
  obtain ⟨q3, e13⟩ : ∃ z, z = hd_m q2 (st.2.1 k 3) := ⟨_, rfl⟩
  obtain ⟨q4, e14⟩ : ∃ z, z = hd_m q3 (hz_wd (st.2.1 k 4 - st.2.2.2.1)) := ⟨_, rfl⟩
  obtain ⟨q5, e15⟩ : ∃ z, z = hd_m q4 (st.2.1 k 5) := ⟨_, rfl⟩
  obtain ⟨q6, e16⟩ : ∃ z, z = hd_b q5 (hz_fol st k) := ⟨_, rfl⟩
  obtain ⟨q7, e17⟩ : ∃ z, z = hd_b q6 (hz_fol st k) := ⟨_, rfl⟩
  refine ⟨_, _, x_X0_at (d + 12) 0 (show k < 10 by omega) h, ?_⟩
  refine ⟨_, _, x_mi (d + 12) (ea 0 (by decide)) e10 h, ?_⟩
  refine hd_ls (ls' := [some (.inr (3, 0)), some (hz_l a), none, some (hz_l q0), none, some (hz_i (nI k)), some (.inr (1, 11 * 0 + k))]) rfl ?_
  refine ⟨_, _, x_mi (d + 12) (ea 1 (by decide)) e11 h, ?_⟩
  refine hd_ls (ls' := [some (.inr (3, 0)), some (hz_l a), none, some (hz_l q1), none, some (hz_i (nI k)), some (.inr (1, 11 * 0 + k))]) rfl ?_
  refine ⟨_, _, x_mi (d + 12) (ea 2 (by decide)) e12 h, ?_⟩
  refine hd_ls (ls' := [some (.inr (3, 0)), some (hz_l a), none, some (hz_l q2), none, some (hz_i (nI k)), some (.inr (1, 11 * 0 + k))]) rfl ?_
  refine ⟨_, _, x_mb (d + 12) (b := decide (st.2.1 k 3 = 1)) e3 (e13.trans (by rw [← hd_bm, hz_b3 (hok.s k hk)])) h, ?_⟩
  refine hd_ls (ls' := [some (.inr (3, 0)), some (hz_l a), none, some (hz_l q3), none, some (hz_i (nI k)), some (.inr (1, 11 * 0 + k))]) rfl ?_
  refine ⟨_, _, m5, ?_⟩
  refine ⟨_, _, x_mi (d + 12) rfl e14 h, ?_⟩
  refine hd_ls (ls' := [some (.inr (3, 0)), some (hz_l a), none, some (hz_l q4), none, some (hz_i (nI k)), some (.inr (1, 11 * 0 + k))]) rfl ?_
  refine ⟨_, _, x_mi (d + 12) (ea 5 (by decide)) e15 h, ?_⟩
  refine hd_ls (ls' := [some (.inr (3, 0)), some (hz_l a), none, some (hz_l q5), none, some (hz_i (nI k)), some (.inr (1, 11 * 0 + k))]) rfl ?_
  refine ⟨_, _, x_fol (d + 9) k h st H n10 hk, ?_⟩
  refine ⟨_, _, x_mb (d + 12) rfl e16 h, ?_⟩
  refine hd_ls (ls' := [some (.inr (3, 0)), some (hz_l a), none, some (hz_l q6), none, some (hz_i (nI k)), some (.inr (1, 11 * 0 + k))]) rfl ?_
  refine ⟨_, _, x_fols (d + 3) k h st H hok hk, ?_⟩
  refine ⟨_, _, x_mb (d + 12) rfl e17 h, ?_⟩
  refine hd_ls (ls' := [some (.inr (3, 0)), some (hz_l a), none, some (hz_l q7), none, some (hz_i (nI k)), some (.inr (1, 11 * 0 + k))]) rfl ?_
  rw [← e10, ← e11, ← e12, ← e13, ← e14, ← e15, ← e16, ← e17] at ih
  exact ih _
theorem x_dHouse (d : Nat) (a : Int64) (h : hq_H) (st : hz_St) (H : hz_HC h 0 st) (hok : hz_okS st) : hq_Met (d + 14) MX6_digestHouse [.inr (3, 0), hz_l a] h (hz_ol (hd_house st a)) h := by
  have n10 := hok.1
  unfold hd_house
  refine inX6_digestHouse (d + 13) 0 a h _ _ (fun _ => trivial) (fun J b0 b76 => b0 _ _ _ ?_)
  obtain ⟨q0, e0⟩ : ∃ z, z = hd_m a st.2.2.1 := ⟨_, rfl⟩
  obtain ⟨q1, e1⟩ : ∃ z, z = hd_m q0 st.2.2.2.1 := ⟨_, rfl⟩
  obtain ⟨q2, e2⟩ : ∃ z, z = hd_m q1 (nI (hz_force st)) := ⟨_, rfl⟩
  obtain ⟨q3, e3⟩ : ∃ z, z = hd_m q2 (nI (hz_broke st st.2.2.1)) := ⟨_, rfl⟩
  rw [← e0, ← e1, ← e2, ← e3] at b76
  have mb := x_broke (d + 11) h st H n10 (way := h.1 0 0 3) H.2.2.1
  rw [show hz_broke st (h.1 0 0 3) = hz_broke st st.2.2.1 by rw [H.2.1]] at mb
  have ma := x_X0_accounts (d + 11) 0 h st.1 st.2.1 n10 H.1 (fun k hk => (H.2.2.2.2.2 k hk).1)
  rw [H.2.2.2.2.1] at ma
  refine ⟨_, _, x_mi (d + 12) H.2.1 e0 h, ?_⟩
  refine hd_ls (ls' := [some (.inr (3, 0)), some (hz_l a), none, some (hz_l q0), none, none]) rfl ?_
  refine ⟨_, _, x_mi (d + 12) H.2.2.1 e1 h, ?_⟩
  refine hd_ls (ls' := [some (.inr (3, 0)), some (hz_l a), none, some (hz_l q1), none, none]) rfl ?_
  refine ⟨_, _, x_force (d + 11) h st H n10 H.2.2.1, ?_⟩
  refine ⟨_, _, x_mi (d + 12) rfl e2 h, ?_⟩
  refine hd_ls (ls' := [some (.inr (3, 0)), some (hz_l a), none, some (hz_l q2), none, none]) rfl ?_
  refine ⟨_, _, mb, ?_⟩
  refine ⟨_, _, x_mi (d + 12) rfl e3 h, ?_⟩
  refine hd_ls (ls' := [some (.inr (3, 0)), some (hz_l a), none, some (hz_l q3), none, none]) rfl ?_
  refine hq_up (P := fun k => J 76 [some (.inr (3, 0)), some (hz_l a), none, some (hz_l (hd_rooms st q3 k)), none, some (hz_i (nI k))] [] h) 6 (b76 _ _ _ (hq_bt (hz_le (a := 6) (b := 6) rfl rfl (Nat.le_refl _) (by decide)) ?_)) (fun k hk ih => b76 _ _ _ ?_) 0 (Nat.zero_le _)
  · obtain ⟨q4, e4⟩ : ∃ z, z = hd_m (hd_rooms st q3 6) st.2.2.2.2.1 := ⟨_, rfl⟩
    obtain ⟨q5, e5⟩ : ∃ z, z = hd_m q4 (hz_acc st.2.1 st.2.2.2.2.2 st.1) := ⟨_, rfl⟩
    rw [← e4, ← e5]
    refine ⟨_, _, x_mi (d + 12) H.2.2.2.1 e4 h, ?_⟩
    refine hd_ls (ls' := [some (.inr (3, 0)), some (hz_l a), none, some (hz_l q4), none, some (hz_i (nI 6))]) rfl ?_
    refine ⟨_, _, ma, ?_⟩
    exact ⟨_, _, x_mi (d + 12) rfl e5 h, rfl, rfl⟩
  · refine hq_bf (hz_nle (a := 6) (b := k) rfl rfl hk (by decide)) ?_
    have s : hd_rooms st q3 (k + 1) = hd_m (hd_m (hd_rooms st q3 k) (hz_rfs st (nI k))) (hz_com st k) := rfl
    rw [s, nI_succ k] at ih
    generalize hd_rooms st q3 k = q at ih ⊢
    obtain ⟨q4, e4⟩ : ∃ z, z = hd_m q (hz_rfs st (nI k)) := ⟨_, rfl⟩
    obtain ⟨q5, e5⟩ : ∃ z, z = hd_m q4 (hz_com st k) := ⟨_, rfl⟩
    rw [← e4, ← e5] at ih
    refine ⟨_, _, x_ref (d + 11) h st H hok (nI k), ?_⟩
    refine ⟨_, _, x_mi (d + 12) rfl e4 h, ?_⟩
    refine hd_ls (ls' := [some (.inr (3, 0)), some (hz_l a), none, some (hz_l q4), none, some (hz_i (nI k))]) rfl ?_
    refine ⟨_, _, x_com (d + 9) k h st H n10 hk, ?_⟩
    refine ⟨_, _, x_mi (d + 12) rfl e5 h, ?_⟩
    exact hd_ls (ls' := [some (.inr (3, 0)), some (hz_l a), none, some (hz_l q5), none, some (hz_i (nI k))]) rfl ih
theorem x_wbs (d : Nat) (h : hq_H) (st : hz_St) (H : hz_HC h 0 st) (hok : hz_okS st) : hq_Met (d + 10) MX6_waysBySplitting [.inr (3, 0)] h (hz_o (nI (hz_many st))) h := by
  refine inX6_waysBySplitting (d + 9) 0 h _ _ (fun _ => trivial) (fun J b0 => b0 _ _ _ ?_)
  refine ⟨_, _, x_force (d + 7) h st H hok.1 H.2.2.1, ?_⟩
  refine ⟨_, _, x_split0 d h st H hok rfl (hz_force31 _ hok.1), ?_⟩
  exact ⟨hz_ri (by rw [← hz_ways_00, hz_ways_force]), rfl⟩
theorem hd_split (st : hz_St) (S : Nat) : 0 < hz_cnt (hz_good st S) 64 ↔ hz_nz (hz_stand st S) = true := by
  unfold hz_nz
  have q := hz_stand_z st S
  by_cases c : hz_stand st S = 0
  · rw [decide_eq_true c]
    have := q.mp c
    refine ⟨fun z => by omega, fun z => (by cases z)⟩
  · rw [decide_eq_false c]
    refine ⟨fun _ => rfl, fun _ => Nat.pos_of_ne_zero (fun z => c (q.mpr z))⟩
theorem x_dStand (d : Nat) (a : Int64) (h : hq_H) (st : hz_St) (H : hz_HC h 0 st) (hok : hz_okS st) : hq_Met (d + 14) MX6_digestStanding [.inr (3, 0), hz_l a] h (hz_ol (hd_stand st a)) (hw_jn h (hz_joined st (hz_force st))) := by
  have n10 := hok.1
  have f31 := hz_force31 st n10
  have H2 : hz_HC (hw_jn h (hz_joined st (hz_force st))) 0 st := hz_HC_stay (hw_jn_st h _) n10 (fun k i z y => by have := hw_own_k z; omega) H
  have n2 := hw_jn_n h (hz_joined st (hz_force st))
  unfold hd_stand
  refine inX6_digestStanding (d + 13) 0 a h _ _ (fun _ => trivial) (fun J b0 b34 b60 b94 => b0 _ _ _ ?_)
  obtain ⟨q0, e0⟩ : ∃ z, z = hd_b a (hz_nz (hz_stand st (hz_force st))) := ⟨_, rfl⟩
  obtain ⟨q1, e1⟩ : ∃ z, z = hd_b q0 (hz_nz (hz_stand st (hz_force st))) := ⟨_, rfl⟩
  obtain ⟨q2, e2⟩ : ∃ z, z = hd_b q1 (!hj_in (hz_joined st (hz_force st)) 0) := ⟨_, rfl⟩
  obtain ⟨q3, e3⟩ : ∃ z, z = hd_m q2 (nI (hz_joined st (hz_force st)).1) := ⟨_, rfl⟩
  obtain ⟨q4, e4⟩ : ∃ z, z = hd_m q3 (nI (hz_many st)) := ⟨_, rfl⟩
  obtain ⟨q5, e5⟩ : ∃ z, z = hd_m q4 (nI (hz_many st)) := ⟨_, rfl⟩
  obtain ⟨q6, e6⟩ : ∃ z, z = hd_m q5 (hz_first st) := ⟨_, rfl⟩
  rw [← e0, ← e1, ← e2, ← e3, ← e4, ← e5, ← e6] at b94
  have t94 : J 94 [some (.inr (3, 0)), some (hz_l a), none, some (hz_i (nI (hz_force st))), some (hz_l q1), none] [hz_i (hz_b (!hj_in (hz_joined st (hz_force st)) 0)), hz_l q1] (hw_jn h (hz_joined st (hz_force st))) := by
    refine b94 _ _ _ ?_
    refine ⟨_, _, x_mb (d + 12) rfl e2 _, ?_⟩
    refine hd_ls (ls' := [some (.inr (3, 0)), some (hz_l a), none, some (hz_i (nI (hz_force st))), some (hz_l q2), none]) rfl ?_
    refine ⟨_, _, x_mi (d + 12) n2 e3 _, ?_⟩
    refine hd_ls (ls' := [some (.inr (3, 0)), some (hz_l a), none, some (hz_i (nI (hz_force st))), some (hz_l q3), none]) rfl ?_
    refine ⟨_, _, x_count (d + 9) _ st H2 n10, ?_⟩
    refine ⟨_, _, x_mi (d + 12) rfl e4 _, ?_⟩
    refine hd_ls (ls' := [some (.inr (3, 0)), some (hz_l a), none, some (hz_i (nI (hz_force st))), some (hz_l q4), none]) rfl ?_
    refine ⟨_, _, x_wbs (d + 3) _ st H2 hok, ?_⟩
    refine ⟨_, _, x_mi (d + 12) rfl e5 _, ?_⟩
    refine hd_ls (ls' := [some (.inr (3, 0)), some (hz_l a), none, some (hz_i (nI (hz_force st))), some (hz_l q5), none]) rfl ?_
    refine ⟨_, _, x_first (d + 9) _ st H2 n10, ?_⟩
    exact ⟨_, _, x_mi (d + 12) rfl e6 _, rfl, rfl⟩
  have t60 : J 60 [some (.inr (3, 0)), some (hz_l a), none, some (hz_i (nI (hz_force st))), some (hz_l q0), none] [hz_i (hz_b (hz_nz (hz_stand st (hz_force st)))), hz_l q0] h := by
    refine b60 _ _ _ ?_
    refine ⟨_, _, x_mb (d + 12) rfl e1 _, ?_⟩
    refine hd_ls (ls' := [some (.inr (3, 0)), some (hz_l a), none, some (hz_i (nI (hz_force st))), some (hz_l q1), none]) rfl ?_
    refine ⟨_, x_joinAll (d + 10) h st H hok f31, ?_⟩
    refine ⟨_, _, x_nothing (d + 12) h _, ?_⟩
    cases e : hj_in (hz_joined st (hz_force st)) 0 with
    | true =>
      rw [e] at t94
      exact hq_nt hz_one0 t94
    | false =>
      rw [e] at t94
      exact hq_nf rfl t94
  have t34 : J 34 [some (.inr (3, 0)), some (hz_l a), none, some (hz_i (nI (hz_force st))), none, none] [hz_i (hz_b (hz_nz (hz_stand st (hz_force st)))), hz_l a] h := by
    refine b34 _ _ _ ?_
    refine ⟨_, _, x_mb (d + 12) rfl e0 _, ?_⟩
    refine hd_ls (ls' := [some (.inr (3, 0)), some (hz_l a), none, some (hz_i (nI (hz_force st))), some (hz_l q0), none]) rfl ?_
    refine ⟨_, _, x_split0 (d + 4) h st H hok rfl f31, ?_⟩
    have sp := hd_split st (hz_force st)
    have c64 := hz_cnt_le (hz_good st (hz_force st)) 64
    refine hq_bc (fun c => ?_) (fun c => ?_)
    · have z : hz_nz (hz_stand st (hz_force st)) = false := ts_nt (fun y => nI_nle (sp.mpr y) (by omega) c)
      rw [z] at t60
      exact t60
    · have z : hz_nz (hz_stand st (hz_force st)) = true := sp.mp (Nat.pos_of_ne_zero (fun y => c (by rw [y]; decide)))
      rw [z] at t60
      exact t60
  refine ⟨_, _, x_force (d + 11) h st H n10 H.2.2.1, ?_⟩
  refine ⟨_, _, x_ways (d + 11) h st H n10 rfl f31, ?_⟩
  refine hq_bc (fun c => ?_) (fun c => ?_)
  · have z : hz_nz (hz_stand st (hz_force st)) = false := by
      unfold hz_nz
      rw [decide_eq_true ((hz_cmp0 _).mp c)]
      rfl
    rw [z] at t34
    exact t34
  · have z : hz_nz (hz_stand st (hz_force st)) = true := by
      unfold hz_nz
      rw [decide_eq_false (fun y => c ((hz_cmp0 _).mpr y))]
      rfl
    rw [z] at t34
    exact t34
def hw_t3 (h : hq_H) (st : hz_St) : hq_H := hw_tb (hw_tb (hw_tb h (hz_stand st) (2 ^ st.1)) (hz_stand st) (2 ^ st.1)) (hz_stand st) (2 ^ st.1)
theorem hz_HC_tb {h : hq_H} {st : hz_St} (n10 : st.1 ≤ 10) (H : hz_HC h 0 st) : hz_HC (hw_tb h (hz_stand st) (2 ^ st.1)) 0 st := hz_HC_stay (hw_tb_st h _ _) n10 (fun k i z y => by have := hw_own_k z; omega) H
theorem x_dClash (d : Nat) (a : Int64) (h : hq_H) (st : hz_St) (H : hz_HC h 0 st) (hok : hz_okS st) : hq_Met (d + 14) MX6_digestClashes [.inr (3, 0), hz_l a] h (hz_ol (hd_clash st a)) (hw_t3 h st) := by
  have n10 := hok.1
  have H1 := hz_HC_tb n10 H
  have H2 := hz_HC_tb n10 H1
  unfold hd_clash hw_t3
  refine inX6_digestClashes (d + 13) 0 a h _ _ (fun _ => trivial) (fun J b0 => b0 _ _ _ ?_)
  obtain ⟨q0, e0⟩ : ∃ z, z = hd_m a (hz_small st) := ⟨_, rfl⟩
  obtain ⟨q1, e1⟩ : ∃ z, z = hd_m q0 (hz_scw st) := ⟨_, rfl⟩
  obtain ⟨q2, e2⟩ : ∃ z, z = hd_m q1 (hz_narrowed st) := ⟨_, rfl⟩
  obtain ⟨q3, e3⟩ : ∃ z, z = hd_m q2 (nI (hz_narrows st)) := ⟨_, rfl⟩
  obtain ⟨q4, e4⟩ : ∃ z, z = hd_m q3 (nI (hz_few st 63)) := ⟨_, rfl⟩
  obtain ⟨q5, e5⟩ : ∃ z, z = hd_m q4 (nI (hz_fws st)) := ⟨_, rfl⟩
  rw [← e0, ← e1, ← e2, ← e3, ← e4, ← e5]
  refine ⟨_, _, x_smallest (d + 8) h st H n10, ?_⟩
  refine ⟨_, _, x_mi (d + 12) rfl e0 _, ?_⟩
  refine hd_ls (ls' := [some (.inr (3, 0)), some (hz_l a), none, some (hz_l q0), none]) rfl ?_
  refine ⟨_, _, x_scw d _ st H1 n10, ?_⟩
  refine ⟨_, _, x_mi (d + 12) rfl e1 _, ?_⟩
  refine hd_ls (ls' := [some (.inr (3, 0)), some (hz_l a), none, some (hz_l q1), none]) rfl ?_
  refine ⟨_, _, x_narrowed (d + 9) _ st H1 n10, ?_⟩
  refine ⟨_, _, x_mi (d + 12) rfl e2 _, ?_⟩
  refine hd_ls (ls' := [some (.inr (3, 0)), some (hz_l a), none, some (hz_l q2), none]) rfl ?_
  refine ⟨_, _, x_narrows (d + 8) _ st H1 n10, ?_⟩
  refine ⟨_, _, x_mi (d + 12) rfl e3 _, ?_⟩
  refine hd_ls (ls' := [some (.inr (3, 0)), some (hz_l a), none, some (hz_l q3), none]) rfl ?_
  refine ⟨_, _, x_few (d + 9) _ st H2 n10, ?_⟩
  refine ⟨_, _, x_mi (d + 12) rfl e4 _, ?_⟩
  refine hd_ls (ls' := [some (.inr (3, 0)), some (hz_l a), none, some (hz_l q4), none]) rfl ?_
  refine ⟨_, _, x_fws (d + 8) _ st H2 n10, ?_⟩
  exact ⟨_, _, x_mi (d + 12) rfl e5 _, rfl, rfl⟩
theorem x_nn (d : Nat) (h : hq_H) (st : hz_St) (H : hz_HC h 0 st) (n10 : st.1 ≤ 10) : hq_Met (d + 4) MX6_nightNow [.inr (3, 0)] h (hz_o (hz_night st.2.1 st.1 st.2.2.2.1 st.2.2.1)) h := by
  refine inX6_nightNow (d + 3) 0 h _ _ (fun _ => trivial) (fun J b0 => b0 _ _ _ ?_)
  have m := x_night d h st H n10 (way := h.1 0 0 3) H.2.2.1
  rw [show hz_night st.2.1 st.1 st.2.2.2.1 (h.1 0 0 3) = hz_night st.2.1 st.1 st.2.2.2.1 st.2.2.1 by rw [H.2.1]] at m
  exact ⟨_, _, m, rfl, rfl⟩
theorem x_dPeace (d : Nat) (a : Int64) (h : hq_H) (st : hz_St) (H : hz_HC h 0 st) (hok : hz_okS st) : hq_Met (d + 14) MX6_digestPeace [.inr (3, 0), hz_l a] h (hz_ol (hd_peace st a)) h := by
  have n10 := hok.1
  unfold hd_peace
  refine inX6_digestPeace (d + 13) 0 a h _ _ (fun _ => trivial) (fun J b0 => b0 _ _ _ ?_)
  obtain ⟨q0, e0⟩ : ∃ z, z = hd_m a (hz_tp st 64) := ⟨_, rfl⟩
  obtain ⟨q1, e1⟩ : ∃ z, z = hd_m q0 (hz_tg st) := ⟨_, rfl⟩
  obtain ⟨q2, e2⟩ : ∃ z, z = hd_m q1 (hz_night st.2.1 st.1 st.2.2.2.1 st.2.2.1) := ⟨_, rfl⟩
  obtain ⟨q3, e3⟩ : ∃ z, z = hd_m q2 (nI (hz_chp st 63)) := ⟨_, rfl⟩
  obtain ⟨q4, e4⟩ : ∃ z, z = hd_m q3 (hz_night st.2.1 st.1 st.2.2.2.1 (nI (hz_chp st 63))) := ⟨_, rfl⟩
  obtain ⟨q5, e5⟩ : ∃ z, z = hd_m q4 (hz_bt st 6).1 := ⟨_, rfl⟩
  obtain ⟨q6, e6⟩ : ∃ z, z = hd_m q5 (hz_ahead st.2.1 st.1 st.2.2.2.1 st.2.2.1 9) := ⟨_, rfl⟩
  rw [← e0, ← e1, ← e2, ← e3, ← e4, ← e5, ← e6]
  refine ⟨_, _, x_tp (d + 9) h st H hok, ?_⟩
  refine ⟨_, _, x_mi (d + 12) rfl e0 _, ?_⟩
  refine hd_ls (ls' := [some (.inr (3, 0)), some (hz_l a), none, some (hz_l q0), none]) rfl ?_
  refine ⟨_, _, x_tg (d + 9) h st H hok, ?_⟩
  refine ⟨_, _, x_mi (d + 12) rfl e1 _, ?_⟩
  refine hd_ls (ls' := [some (.inr (3, 0)), some (hz_l a), none, some (hz_l q1), none]) rfl ?_
  refine ⟨_, _, x_nn (d + 9) h st H n10, ?_⟩
  refine ⟨_, _, x_mi (d + 12) rfl e2 _, ?_⟩
  refine hd_ls (ls' := [some (.inr (3, 0)), some (hz_l a), none, some (hz_l q2), none]) rfl ?_
  refine ⟨_, _, x_chp (d + 8) h st H hok, ?_⟩
  refine ⟨_, _, x_mi (d + 12) rfl e3 _, ?_⟩
  refine hd_ls (ls' := [some (.inr (3, 0)), some (hz_l a), none, some (hz_l q3), none]) rfl ?_
  refine ⟨_, _, x_chn (d + 3) h st H hok, ?_⟩
  refine ⟨_, _, x_mi (d + 12) rfl e4 _, ?_⟩
  refine hd_ls (ls' := [some (.inr (3, 0)), some (hz_l a), none, some (hz_l q4), none]) rfl ?_
  refine ⟨_, _, x_bt (d + 8) h st H hok, ?_⟩
  refine ⟨_, _, x_mi (d + 12) rfl e5 _, ?_⟩
  refine hd_ls (ls' := [some (.inr (3, 0)), some (hz_l a), none, some (hz_l q5), none]) rfl ?_
  refine ⟨_, _, x_ahead (d + 9) h st H n10 (q := 9) rfl (by decide), ?_⟩
  exact ⟨_, _, x_mi (d + 12) rfl e6 _, rfl, rfl⟩
theorem hd_prs_lo {st : hz_St} (hok : hz_okS st) : st.1 ≤ hz_prs st ∧ hz_prs st ≤ 9 * st.1 := by
  refine ⟨?_, hz_ns_9 (fun i hi => (hz_pr_is hok hi).2)⟩
  have key : ∀ n, n ≤ st.1 → n ≤ hz_ns (fun _ => true) (hz_pr st) n := by
    intro n
    induction n with
    | zero => exact fun _ => Nat.le_refl _
    | succ n ih =>
      intro hn
      have := ih (by omega)
      obtain ⟨-, ⟨p, p1, p9, hp⟩, -⟩ := hok.2.2 n (by omega)
      have e : hz_pr st n = p := by
        unfold hz_pr
        rw [hp, nI_clamp (by omega)]
      rw [hz_ns_s, if_pos rfl]
      omega
  exact key st.1 (Nat.le_refl _)
theorem x_bomS (d : Nat) (h : hq_H) (st : hz_St) (hok : hz_okS st) : hq_Met (d + 1) MX6_bitsOfMean [.inl (.float (hz_mean st))] h (hz_o (hd_mb st)) h := by
  have n10 := hok.1
  obtain ⟨l1, l2⟩ := hd_prs_lo hok
  unfold hz_mean hd_mb
  by_cases c : st.1 = 0
  · rw [if_pos c, if_pos c]
    exact x_bom0 d h
  · rw [if_neg c, if_neg c]
    exact x_bom d (hz_prs st) st.1 h (by omega) n10 l1 l2
theorem x_dRest (d : Nat) (a : Int64) (h : hq_H) (w : hz_W) (R : hz_RC h w) : hq_Met (d + 14) MX6_digestRest [.inr (3, 0), hz_l a] h (hz_ol (hd_rest w a)) h := by
  have n10 := R.2.1.1
  have l64 : hz_many w.1 ≤ 64 := hz_cnt_le _ 64
  have B := R.2.2.2.2
  have l60 := B.1.1
  have es : h.1 3 0 2 = hz_b w.2.1.isSome := by
    have s := R.2.2.1
    cases hw : w.2.1 with
    | none =>
      rw [hw] at s
      exact s
    | some x =>
      rw [hw] at s
      exact s.1
  unfold hd_rest
  refine inX6_digestRest (d + 13) 0 a h _ _ (fun _ => trivial) (fun J b0 b60 => b0 _ _ _ ?_)
  obtain ⟨q0, e0⟩ : ∃ z, z = hd_m a (nI w.2.2.1.1) := ⟨_, rfl⟩
  obtain ⟨q1, e1⟩ : ∃ z, z = hd_l q0 (hz_sB (hz_many w.1)) := ⟨_, rfl⟩
  obtain ⟨q2, e2⟩ : ∃ z, z = hd_m q1 (hd_mb w.1) := ⟨_, rfl⟩
  obtain ⟨q3, e3⟩ : ∃ z, z = hd_b q2 w.2.1.isSome := ⟨_, rfl⟩
  obtain ⟨q4, e4⟩ : ∃ z, z = hd_m q3 (nI w.2.2.2.1) := ⟨_, rfl⟩
  rw [← e0, ← e1, ← e2, ← e3, ← e4] at b60
  refine ⟨_, _, x_mi (d + 12) R.2.2.2.1.2.1 e0 h, ?_⟩
  refine hd_ls (ls' := [some (.inr (3, 0)), some (hz_l a), none, some (hz_l q0), none, none]) rfl ?_
  refine ⟨_, _, x_share (d + 8) h w.1 R.1 n10, _, _, x_bos (d + 12) (hz_many w.1) h l64, ?_⟩
  refine ⟨_, _, x_ml (d + 12) rfl e1 h, ?_⟩
  refine hd_ls (ls' := [some (.inr (3, 0)), some (hz_l a), none, some (hz_l q1), none, none]) rfl ?_
  refine ⟨_, _, x_mean (d + 10) h w.1 R.1 R.2.1, _, _, x_bomS (d + 12) h w.1 R.2.1, ?_⟩
  refine ⟨_, _, x_mi (d + 12) rfl e2 h, ?_⟩
  refine hd_ls (ls' := [some (.inr (3, 0)), some (hz_l a), none, some (hz_l q2), none, none]) rfl ?_
  refine ⟨_, _, x_mb (d + 12) es e3 h, ?_⟩
  refine hd_ls (ls' := [some (.inr (3, 0)), some (hz_l a), none, some (hz_l q3), none, none]) rfl ?_
  refine ⟨_, _, x_mi (d + 12) B.2.1 e4 h, ?_⟩
  refine hd_ls (ls' := [some (.inr (3, 0)), some (hz_l a), none, some (hz_l q4), none, none]) rfl ?_
  refine hq_up (P := fun k => J 60 [some (.inr (3, 0)), some (hz_l a), none, some (hz_l (hd_buf w.2.2.2.2 q4 k)), none, some (hz_i (nI k))] [] h) w.2.2.2.1 (b60 _ _ _ (hq_bt (hz_le (a := w.2.2.2.1) (b := w.2.2.2.1) B.2.1 rfl (Nat.le_refl _) (by omega)) ⟨rfl, rfl⟩)) (fun k hk ih => b60 _ _ _ ?_) 0 (Nat.zero_le _)
  refine hq_bf (hz_nle (a := w.2.2.2.1) (b := k) B.2.1 rfl hk (by omega)) ?_
  refine hq_bf (hz_nle (a := 60) (b := k) rfl rfl (by omega) (by decide)) ?_
  refine ⟨k, by omega, rfl, ?_⟩
  have s : hd_buf w.2.2.2.2 q4 (k + 1) = hd_m (hd_buf w.2.2.2.2 q4 k) (nI (w.2.2.2.2 k)) := rfl
  rw [nI_succ k] at ih
  obtain ⟨q5, e5⟩ : ∃ z, z = hd_m (hd_buf w.2.2.2.2 q4 k) (nI (w.2.2.2.2 k)) := ⟨_, rfl⟩
  rw [s, ← e5] at ih
  refine ⟨_, _, x_mi (d + 12) (B.2.2 k hk) e5 h, ?_⟩
  exact hd_ls (ls' := [some (.inr (3, 0)), some (hz_l a), none, some (hz_l q5), none, some (hz_i (nI k))]) rfl ih
theorem t_digest (d : Nat) (h : hq_H) (w : hz_W) (R : hz_RC h w) : hz_Ans MX6_digest (d + 15) [.inr (3, 0)] h (hz_ol (hd_all w), w) := by
  have n10 := R.2.1.1
  have s1 : hw_stay (fun k _ => 7 ≤ k ∧ k < 13) h (hw_jn h (hz_joined w.1 (hz_force w.1))) := hw_jn_st h _
  have R1 := hz_RC_free R s1
  have s2 : hw_stay (fun k _ => 7 ≤ k ∧ k < 13) (hw_jn h (hz_joined w.1 (hz_force w.1))) (hw_t3 (hw_jn h (hz_joined w.1 (hz_force w.1))) w.1) := (hw_tb_st _ _ _).trans ((hw_tb_st _ _ _).trans (hw_tb_st _ _ _))
  have R2 := hz_RC_free R1 s2
  refine hz_free R (s1.trans s2) ?_
  unfold hd_all
  refine inX6_digest (d + 14) 0 h _ _ (fun _ => trivial) (fun J b0 => b0 _ _ _ ?_)
  obtain ⟨q0, e0⟩ : ∃ z, z = hd_rules w.1 4211 w.1.1 := ⟨_, rfl⟩
  obtain ⟨q1, e1⟩ : ∃ z, z = hd_house w.1 q0 := ⟨_, rfl⟩
  obtain ⟨q2, e2⟩ : ∃ z, z = hd_stand w.1 q1 := ⟨_, rfl⟩
  obtain ⟨q3, e3⟩ : ∃ z, z = hd_clash w.1 q2 := ⟨_, rfl⟩
  obtain ⟨q4, e4⟩ : ∃ z, z = hd_peace w.1 q3 := ⟨_, rfl⟩
  have m0 := x_dRules d 4211 h w.1 R.1 R.2.1
  have m1 := x_dHouse d q0 h w.1 R.1 R.2.1
  have m2 := x_dStand d q1 h w.1 R.1 R.2.1
  have m3 := x_dClash d q2 _ w.1 R1.1 R.2.1
  have m4 := x_dPeace d q3 _ w.1 R2.1 R.2.1
  rw [← e0] at m0
  rw [← e1] at m1
  rw [← e2] at m2
  rw [← e3] at m3
  rw [← e4] at m4
  rw [← e0, ← e1, ← e2, ← e3, ← e4]
  refine ⟨_, _, m0, ?_⟩
  refine hd_ls (ls' := [some (.inr (3, 0)), some (hz_l q0), none]) rfl ?_
  refine ⟨_, _, m1, ?_⟩
  refine hd_ls (ls' := [some (.inr (3, 0)), some (hz_l q1), none]) rfl ?_
  refine ⟨_, _, m2, ?_⟩
  refine hd_ls (ls' := [some (.inr (3, 0)), some (hz_l q2), none]) rfl ?_
  refine ⟨_, _, m3, ?_⟩
  refine hd_ls (ls' := [some (.inr (3, 0)), some (hz_l q3), none]) rfl ?_
  refine ⟨_, _, m4, ?_⟩
  refine hd_ls (ls' := [some (.inr (3, 0)), some (hz_l q4), none]) rfl ?_
  exact ⟨_, _, x_dRest d q4 _ w R2, rfl, rfl⟩
