-- ===== the reference: turns and costs =====
theorem hb_tp {st : hz_St} (hok : hz_okS st) : ∀ k, k ≤ 64 → hz_tp st k = -1 ∨ ∃ m, m ≤ 10 ∧ hz_tp st k = nI m
  | 0, _ => Or.inl rfl
  | k + 1, hk => by
    have ih := hb_tp hok k (by omega)
    rw [hz_tp_s]
    have x6 : k ^^^ hz_g st < 64 := Nat.xor_lt_two_pow (n := 6) (by omega) (hz_g_is hok).2
    by_cases c : hz_pk st k = true ∧ (hz_tp st k = -1 ∨ nI (hz_pc (k ^^^ hz_g st)) < hz_tp st k)
    · rw [if_pos c]
      exact Or.inr ⟨_, hz_pc_le _ (by omega), rfl⟩
    · rw [if_neg c]
      exact ih
theorem m_tp (d : Nat) (h : hq_H) (st : hz_St) (Q : hm_Q h st) (hok : hz_okS st) : hq_Met (d + 5) MX7_turnsBest [.inr (13, 0)] h (hz_o (hz_tp st 64)) (hm_lk h st) := by
  obtain ⟨g1, g2⟩ := hz_g_is hok
  refine inX7_turnsBest (d + 4) 0 h _ _ (fun _ => trivial) (fun J b0 b10 => b0 _ _ _ ?_)
  refine ⟨_, _, m_peace d h st Q hok, ?_⟩
  have Q1 := hm_lk_Q Q
  generalize hm_lk h st = h1 at *
  refine hq_up (P := fun k => ∀ v5, J 10 [some (.inr (13, 0)), some (hz_l (hz_peace st.2.1 st.1 st.2.2.2.1)), none, some (hz_i (hz_tp st k)), some (hz_i (nI k)), v5] [] h1) 64 (fun v5 => b10 _ _ _ (hq_bt (hz_le (a := 64) (b := 64) rfl rfl (Nat.le_refl _) (by decide)) ⟨rfl, rfl⟩)) (fun k hk ih v5 => b10 _ _ _ ?_) 0 (Nat.zero_le _) _
  refine hq_bf (hz_nle (a := 64) (b := k) rfl rfl (by omega) (by decide)) ?_
  have x6 : k ^^^ hz_g st < 64 := Nat.xor_lt_two_pow (n := 6) hk g2
  have e1 : nI k ^^^ h1.1 14 0 1 = nI (k ^^^ hz_g st) := by rw [Q1.1.2.1, g1, hz_xorN]
  refine ⟨1, by decide, rfl, ?_⟩
  refine ⟨_, _, m_cnt (d + 3) e1 h1 (by omega), ?_⟩
  have eb := hz_bl_peace st hk
  have ht := hb_tp hok k (by omega)
  have pl := hz_pc_le (k ^^^ hz_g st) (by omega)
  rw [hz_tp_s, nI_succ k] at ih
  refine hq_nc (fun c => ?_) (fun c => ?_)
  · have c : ¬ hz_bl (hz_peace st.2.1 st.1 st.2.2.2.1) k = true := fun z => c ((hz_bl_cmp hk).mpr z)
    have c : ¬ hz_pk st k = true := fun z => c (eb.trans z)
    rw [if_neg (fun z => c z.1)] at ih
    exact ih _
  · have c : hz_pk st k = true := eb.symm.trans ((hz_bl_cmp hk).mp c)
    refine hq_bc (fun c2 => ?_) (fun c2 => ?_)
    · have c2 : hz_tp st k < 0 := c2
      have e : hz_tp st k = -1 := by
        rcases ht with e | ⟨m, hm, e⟩
        · exact e
        · rw [e] at c2
          exact absurd c2 (nI_pos (by omega))
      rw [if_pos ⟨c, Or.inl e⟩] at ih
      exact ih _
    · have c2 : ¬ hz_tp st k < 0 := c2
      have e : ¬ hz_tp st k = -1 := fun z => c2 (by rw [z]; decide)
      refine hq_bc (fun c3 => ?_) (fun c3 => ?_)
      · rw [if_neg (fun z => by
          rcases z.2 with z | z
          · exact e z
          · exact Int32.not_lt.mpr c3 z)] at ih
        exact ih _
      · rw [if_pos ⟨c, Or.inr (Int32.not_le.mp c3)⟩] at ih
        exact ih _
theorem m_tg (d : Nat) (h : hq_H) (st : hz_St) (H : hm_S (h.1 14 0) st) (hok : hz_okS st) : hq_Met (d + 4) MX7_turnsGoing [.inr (13, 0)] h (hz_o (hz_tg st)) h := by
  have n10 := hok.1
  obtain ⟨g1, g2⟩ := hz_g_is hok
  refine inX7_turnsGoing (d + 3) 0 h _ _ (fun _ => trivial) (fun J b0 b4 b16 => b0 _ _ _ ?_)
  refine hq_up (P := fun t => hz_tg st = hz_lo (hz_at st) (7 - t) t → ∀ v3, J 4 [some (.inr (13, 0)), some (hz_i (-1)), some (hz_i (nI t)), v3] [] h) 7 (fun e v3 => b4 _ _ _ (hq_bt (hz_lt (a := 6) (b := 7) rfl rfl (by decide) (by decide)) ⟨hz_ri e, rfl⟩)) (fun t ht ih e v3 => b4 _ _ _ ?_) 0 (Nat.zero_le _) rfl _
  refine hq_bf (hz_nlt (a := 6) (b := t) rfl rfl (by omega) (by decide)) ?_
  refine hq_bf (show ¬ (0 : Int32) ≤ -1 by decide) ?_
  rw [show 7 - t = (7 - (t + 1)) + 1 by omega] at e
  have key := hq_up (P := fun k => J 16 [some (.inr (13, 0)), some (hz_i (if hz_any (fun k => hz_pk st k && decide (hz_pc (k ^^^ hz_g st) = t)) k = true then nI t else -1)), some (hz_i (nI t)), some (hz_i (nI k))] [] h) 64 (b16 _ _ _ ?_) (fun k hk ih2 => b16 _ _ _ ?_) 0 (Nat.zero_le _)
  · exact key
  · refine hq_bt (hz_le (a := 64) (b := 64) rfl rfl (Nat.le_refl _) (by decide)) ?_
    rw [nI_succ t] at ih
    have ea : hz_any (fun k => hz_pk st k && decide (hz_pc (k ^^^ hz_g st) = t)) 64 = hz_at st t := rfl
    rw [ea]
    cases c : hz_at st t with
    | false =>
      rw [hz_lo_n c] at e
      exact ih e _
    | true =>
      rw [hz_lo_y c] at e
      have l1 : nI t + 1 = nI (t + 1) := (nI_succ t).symm
      show J 4 [some (.inr (13, 0)), some (hz_i (nI t)), some (hz_i (nI t + 1)), some (hz_i (nI 64))] [] h
      refine b4 _ _ _ ?_
      refine hq_bc (fun _ => ⟨hz_ri e, rfl⟩) (fun _ => ?_)
      exact hq_bt (nI_pos' (by omega)) ⟨hz_ri e, rfl⟩
  · refine hq_bf (hz_nle (a := 64) (b := k) rfl rfl hk (by decide)) ?_
    have x6 : k ^^^ hz_g st < 64 := Nat.xor_lt_two_pow (n := 6) hk g2
    have e1 : nI k ^^^ h.1 14 0 1 = nI (k ^^^ hz_g st) := by rw [H.2.1, g1, hz_xorN]
    have pl := hz_pc_le (k ^^^ hz_g st) (by omega)
    have s : hz_any (fun k => hz_pk st k && decide (hz_pc (k ^^^ hz_g st) = t)) (k + 1) = (hz_any (fun k => hz_pk st k && decide (hz_pc (k ^^^ hz_g st) = t)) k || (hz_pk st k && decide (hz_pc (k ^^^ hz_g st) = t))) := rfl
    refine ⟨1, by decide, rfl, ?_⟩
    refine ⟨_, _, m_cnt (d + 2) e1 h (by omega), ?_⟩
    rw [s, nI_succ k] at ih2
    refine hq_nc (fun c => ?_) (fun c => ?_)
    · have c : ¬ hz_pc (k ^^^ hz_g st) = t := fun z => c (congrArg nI z)
      rw [decide_eq_false c, Bool.and_false, Bool.or_false] at ih2
      exact ih2
    · have c : hz_pc (k ^^^ hz_g st) = t := (nI_eq (by omega) (by omega)).mp c
      rw [decide_eq_true c, Bool.and_true] at ih2
      refine ⟨_, _, m_broke d (nI k) h st H n10, ?_⟩
      have b := hz_broke31 st n10 (nI k)
      refine hq_nc (fun c2 => ?_) (fun c2 => ?_)
      · have p : hz_pk st k = false := decide_eq_false (fun z => c2 (congrArg nI z))
        rw [p, Bool.or_false] at ih2
        exact ih2
      · have p : hz_pk st k = true := decide_eq_true ((nI_eq (b := 0) b (by decide)).mp c2)
        rw [p, Bool.or_true, if_pos rfl] at ih2
        exact ih2
theorem m_chp (d : Nat) (h : hq_H) (st : hz_St) (H : hm_S (h.1 14 0) st) (hok : hz_okS st) : hq_Met (d + 5) MX7_cheapest [.inr (13, 0)] h (hz_o (nI (hz_chp st 63))) h := by
  have n10 := hok.1
  refine inX7_cheapest (d + 4) 0 h _ _ (fun _ => trivial) (fun J b0 b4 => b0 _ _ _ ?_)
  refine hq_up (P := fun k => J 4 [some (.inr (13, 0)), some (hz_i (nI (hz_chp st k))), some (hz_i (nI (k + 1)))] [] h) 63 (b4 _ _ _ (hq_bt (hz_le (a := 64) (b := 64) rfl rfl (Nat.le_refl _) (by decide)) ⟨rfl, rfl⟩)) (fun k hk ih => b4 _ _ _ ?_) 0 (Nat.zero_le _)
  refine hq_bf (hz_nle (a := 64) (b := k + 1) rfl rfl (by omega) (by decide)) ?_
  have m1 := m_night d (nI (k + 1)) h st H n10
  have m2 := m_night d (nI (hz_chp st k)) h st H n10
  rw [hz_cost_is hok] at m1 m2
  refine ⟨_, _, m1, _, _, m2, ?_⟩
  rw [hz_chp_s, nI_succ (k + 1)] at ih
  have l1 : hz_cost st (k + 1) ≤ 90 := hz_cost_90 hok (hz_brk st.2.1 st.2.2.2.1 (nI (k + 1)))
  have l2 : hz_cost st (hz_chp st k) ≤ 90 := hz_cost_90 hok (hz_brk st.2.1 st.2.2.2.1 (nI (hz_chp st k)))
  refine hq_bc (fun c => ?_) (fun c => ?_)
  · rw [if_neg (fun z => nI_ge z (by omega) c)] at ih
    exact ih
  · rw [if_pos (Nat.lt_of_not_le (fun z => c (nI_le z (by omega))))] at ih
    exact ih
theorem hz_lo_neg {p : Nat → Bool} : ∀ {m s : Nat}, m + s < 2 ^ 31 → (hz_lo p m s < 0 ↔ hz_lo p m s = -1)
  | 0, _, _ => ⟨fun _ => rfl, fun _ => show (-1 : Int32) < 0 by decide⟩
  | m + 1, s, h => by
    cases c : p s with
    | true =>
      rw [hz_lo_y c]
      refine ⟨fun z => absurd z (nI_pos (by omega)), fun z => absurd z (hz_n1 (by omega))⟩
    | false =>
      rw [hz_lo_n c]
      exact hz_lo_neg (by omega)
theorem m_bt (d : Nat) (h : hq_H) (st : hz_St) (H : hm_S (h.1 14 0) st) (hok : hz_okS st) : hq_Met (d + 5) MX7_turnBest [.inr (13, 0)] h (hz_o (hz_bt st 6).1) h := by
  have n10 := hok.1
  refine inX7_turnBest (d + 4) 0 h _ _ (fun _ => trivial) (fun J b0 b15 b56 b68 => b0 _ _ _ ?_)
  refine ⟨1, by decide, rfl, ?_⟩
  have m := m_night d (h.1 14 0 1) h st H n10
  rw [show hz_night st.2.1 st.1 st.2.2.2.1 (h.1 14 0 1) = (hz_bt st 0).2 by rw [H.2.1]; rfl] at m
  refine ⟨_, _, m, ?_⟩
  refine hq_up (P := fun k => ∀ v4 v5, J 15 [some (.inr (13, 0)), some (hz_i (hz_bt st k).1), some (hz_i (hz_bt st k).2), some (hz_i (nI k)), v4, v5] [] h) 6 (fun v4 v5 => b15 _ _ _ (hq_bt (hz_le (a := 6) (b := 6) rfl rfl (Nat.le_refl _) (by decide)) ⟨rfl, rfl⟩)) (fun k hk ih v4 v5 => b15 _ _ _ ?_) 0 (Nat.zero_le _) _ _
  refine hq_bf (hz_nle (a := 6) (b := k) rfl rfl (by omega) (by decide)) ?_
  refine ⟨1, by decide, rfl, ?_⟩
  have m := m_night d (h.1 14 0 1 ^^^ ((1 : Int32) <<< (nI k &&& 31))) h st H n10
  rw [show hz_night st.2.1 st.1 st.2.2.2.1 (h.1 14 0 1 ^^^ ((1 : Int32) <<< (nI k &&& 31))) = hz_night st.2.1 st.1 st.2.2.2.1 (st.2.2.1 ^^^ ((1 : Int32) <<< (nI k &&& 31))) by rw [H.2.1]] at m
  refine ⟨_, _, m, ?_⟩
  rw [hz_bt_s, nI_succ k] at ih
  generalize hz_night st.2.1 st.1 st.2.2.2.1 (st.2.2.1 ^^^ ((1 : Int32) <<< (nI k &&& 31))) = own at *
  have no : ¬ (own < (hz_bt st k).2 ∧ hz_rfs st (nI k) = -1) → J 56 [some (.inr (13, 0)), some (hz_i (hz_bt st k).1), some (hz_i (hz_bt st k).2), some (hz_i (nI k)), some (hz_i own), v5] [hz_i 0] h := fun z => by
    rw [if_neg z] at ih
    exact b56 _ _ _ (hq_bt rfl (b68 _ _ _ (hq_bt rfl (ih _ _))))
  refine hq_bc (fun c => no (fun z => Int32.not_lt.mpr c z.1)) (fun c => ?_)
  refine ⟨_, _, m_ref (d + 1) (nI k) h st H n10, ?_⟩
  have ng : hz_rfs st (nI k) < 0 ↔ hz_rfs st (nI k) = -1 := hz_lo_neg (by omega)
  refine hq_bc (fun c2 => no (fun z => Int32.not_lt.mpr c2 (ng.mpr z.2))) (fun c2 => ?_)
  rw [if_pos ⟨Int32.not_le.mp c, ng.mp (Int32.not_le.mp c2)⟩] at ih
  exact b56 _ _ _ (hq_bf hz_one0 (b68 _ _ _ (hq_bf hz_one0 (ih _ _))))
theorem m_ahead (d : Nat) (h : hq_H) (st : hz_St) (H : hm_S (h.1 14 0) st) (hn : st.1 ≤ 10) {x : Int32} {q : Nat} (hx : x = nI q) (hq : q ≤ 30) : hq_Met (d + 3) MX7_ahead [.inr (13, 0), hz_i x] h (hz_o (hz_ahead st.2.1 st.1 st.2.2.2.1 st.2.2.1 q)) h := by
  subst hx
  refine inX7_ahead (d + 2) 0 (nI q) h _ _ (fun _ => trivial) (fun J b0 b4 b12 => b0 _ _ _ ?_)
  refine hq_up (P := fun k => ∀ v4, J 4 [some (.inr (13, 0)), some (hz_i (nI q)), some (hz_i (hz_ahead st.2.1 st.1 st.2.2.2.1 st.2.2.1 k)), some (hz_i (nI k)), v4] [] h) q (fun v4 => b4 _ _ _ (hq_bt (hz_le (a := q) (b := q) rfl rfl (Nat.le_refl _) (by omega)) ⟨rfl, rfl⟩)) (fun k hk ih v4 => b4 _ _ _ ?_) 0 (Nat.zero_le _) _
  refine hq_bf (hz_nle (a := q) (b := k) rfl rfl hk (by omega)) ?_
  rw [nI_succ k] at ih
  have s : hz_ahead st.2.1 st.1 st.2.2.2.1 st.2.2.1 (k + 1) = hz_ahead st.2.1 st.1 st.2.2.2.1 st.2.2.1 k + hz_sum (hz_brk st.2.1 (st.2.2.2.1 + nI k) st.2.2.1) (hz_price st.2.1) st.1 := rfl
  rw [s] at ih
  generalize hz_ahead st.2.1 st.1 st.2.2.2.1 st.2.2.1 k = acc at *
  have key := hq_up (P := fun j => J 12 [some (.inr (13, 0)), some (hz_i (nI q)), some (hz_i (acc + hz_sum (hz_brk st.2.1 (st.2.2.2.1 + nI k) st.2.2.1) (hz_price st.2.1) j)), some (hz_i (nI k)), some (hz_i (nI j))] [] h) st.1 (b12 _ _ _ ?_) (fun j hj ih2 => b12 _ _ _ ?_) 0 (Nat.zero_le _)
  · rw [show acc + hz_sum (hz_brk st.2.1 (st.2.2.2.1 + nI k) st.2.2.1) (hz_price st.2.1) 0 = acc from hz_add0 acc] at key
    exact key
  · refine ⟨0, by decide, rfl, ?_⟩
    exact hq_bt (hz_le H.1 rfl (Nat.le_refl _) (by omega)) (ih _)
  · refine ⟨0, by decide, rfl, ?_⟩
    refine hq_bf (hz_nle H.1 rfl hj (by omega)) ?_
    refine ⟨2, by decide, rfl, ?_⟩
    refine ⟨_, _, m_frc d j h st H hn hj (congrArg (fun z => z + nI k) H.2.2.1), ?_⟩
    rw [nI_succ j] at ih2
    cases c : hz_inF st.2.1 (st.2.2.2.1 + nI k) j with
    | false =>
      rw [hz_sum_n (hz_andL c), ← hz_add0 (acc + hz_sum (hz_brk st.2.1 (st.2.2.2.1 + nI k) st.2.2.1) (hz_price st.2.1) j)] at ih2
      exact hq_bt rfl ih2
    | true =>
      refine hq_bf hz_one0 ?_
      refine ⟨1, by decide, rfl, ?_⟩
      refine ⟨_, _, m_hold d j h st H hn hj H.2.1, ?_⟩
      cases c2 : hz_hold (st.2.1 j 0) (st.2.1 j 1) st.2.2.1 with
      | true =>
        rw [hz_sum_n (hz_andR (by rw [c2]; rfl)), ← hz_add0 (acc + hz_sum (hz_brk st.2.1 (st.2.2.2.1 + nI k) st.2.2.1) (hz_price st.2.1) j)] at ih2
        exact hq_nt hz_one0 ih2
      | false =>
        refine hq_nf rfl ?_
        refine ⟨_, _, m_at (d + 1) j h, ?_⟩
        refine ⟨5 + 6 * j + 2, by omega, nI_add (5 + 6 * j) 2, ?_⟩
        rw [hz_sum_y (hz_andT c (by rw [c2]; rfl)), ← Int32.add_assoc, show hz_price st.2.1 j = h.1 14 0 (5 + 6 * j + 2) from (H.2.2.2.2.2 j hj 2 (by decide)).symm] at ih2
        exact ih2
theorem m_acc (d : Nat) (h : hq_H) (st : hz_St) (H : hm_S (h.1 14 0) st) (hn : st.1 ≤ 10) : hq_Met (d + 2) MX7_sumOfRules [.inr (13, 0)] h (hz_o (hz_acc st.2.1 st.2.2.2.2.2 st.1)) h := by
  refine inX7_sumOfRules (d + 1) 0 h _ _ (fun _ => trivial) (fun J b0 b9 => b0 _ _ _ ?_)
  refine ⟨4, by decide, rfl, ?_⟩
  have key := hq_up (P := fun k => J 9 [some (.inr (13, 0)), some (hz_i (hz_acc st.2.1 st.2.2.2.2.2 k)), some (hz_i (nI k))] [] h) st.1 (b9 _ _ _ ?_) (fun k hk ih => b9 _ _ _ ?_) 0 (Nat.zero_le _)
  · rw [show hz_acc st.2.1 st.2.2.2.2.2 0 = h.1 14 0 4 from H.2.2.2.2.1.symm] at key
    exact key
  · refine ⟨0, by decide, rfl, ?_⟩
    exact hq_bt (hz_le H.1 rfl (Nat.le_refl _) (by omega)) ⟨rfl, rfl⟩
  · refine ⟨0, by decide, rfl, ?_⟩
    refine hq_bf (hz_nle H.1 rfl hk (by omega)) ?_
    refine ⟨_, _, m_at d k h, ?_⟩
    refine ⟨5 + 6 * k + 5, by omega, nI_add (5 + 6 * k) 5, ?_⟩
    rw [nI_succ k, show hz_acc st.2.1 st.2.2.2.2.2 (k + 1) = hz_acc st.2.1 st.2.2.2.2.2 k + st.2.1 k 5 from rfl, ← H.2.2.2.2.2 k hk 5 (by decide)] at ih
    exact ih
theorem m_sof (d : Nat) (h : hq_H) (st : hz_St) (H : hm_S (h.1 14 0) st) (hok : hz_okS st) : hq_Met (d + 2) MX7_sumOfFines [.inr (13, 0)] h (hz_o (nI (hz_prs st))) h := by
  have hn := hok.1
  have e : nI (hz_prs st) = hz_sum (fun _ => true) (hz_price st.2.1) st.1 := (hz_ns_I (fun i hi => (hz_pr_is hok hi).1)).symm
  rw [e]
  refine inX7_sumOfFines (d + 1) 0 h _ _ (fun _ => trivial) (fun J b0 b4 => b0 _ _ _ ?_)
  refine hq_up (P := fun k => J 4 [some (.inr (13, 0)), some (hz_i (hz_sum (fun _ => true) (hz_price st.2.1) k)), some (hz_i (nI k))] [] h) st.1 (b4 _ _ _ ?_) (fun k hk ih => b4 _ _ _ ?_) 0 (Nat.zero_le _)
  · refine ⟨0, by decide, rfl, ?_⟩
    exact hq_bt (hz_le H.1 rfl (Nat.le_refl _) (by omega)) ⟨rfl, rfl⟩
  · refine ⟨0, by decide, rfl, ?_⟩
    refine hq_bf (hz_nle H.1 rfl hk (by omega)) ?_
    refine ⟨_, _, m_at d k h, ?_⟩
    refine ⟨5 + 6 * k + 2, by omega, nI_add (5 + 6 * k) 2, ?_⟩
    rw [nI_succ k, hz_sum_y rfl, show hz_price st.2.1 k = h.1 14 0 (5 + 6 * k + 2) from (H.2.2.2.2.2 k hk 2 (by decide)).symm] at ih
    exact ih
theorem m_waived (d k : Nat) (h : hq_H) (st : hz_St) (H : hm_S (h.1 14 0) st) (hn : st.1 ≤ 10) (hk : k < st.1) : hq_Met (d + 2) MX7_waived [.inr (13, 0), hz_i (nI k)] h (hz_o (hz_wd (st.2.1 k 4 - st.2.2.2.1))) h := by
  refine inX7_waived (d + 1) 0 (nI k) h _ _ (fun _ => trivial) (fun J b0 => b0 _ _ _ ?_)
  refine ⟨_, _, m_at d k h, ?_⟩
  refine ⟨5 + 6 * k + 4, by omega, nI_add (5 + 6 * k) 4, ?_⟩
  refine ⟨2, by decide, rfl, ?_⟩
  have e4 := H.2.2.2.2.2 k hk 4 (by decide)
  have e : h.1 14 0 (5 + 6 * k + 4) - h.1 14 0 2 = st.2.1 k 4 - st.2.2.2.1 := by rw [e4, H.2.2.1]
  unfold hz_wd
  refine hq_bc (fun c => ?_) (fun c => ?_)
  · have c : h.1 14 0 (5 + 6 * k + 4) - h.1 14 0 2 ≤ 0 := c
    rw [e] at c
    rw [if_neg (Int32.not_lt.mpr c)]
    exact ⟨rfl, rfl⟩
  · have c : ¬ h.1 14 0 (5 + 6 * k + 4) - h.1 14 0 2 ≤ 0 := c
    rw [e] at c
    rw [if_pos (Int32.not_le.mp c)]
    exact ⟨hz_ri e.symm, rfl⟩
