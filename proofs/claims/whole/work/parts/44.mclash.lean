-- ===== the reference: clashes and waivers =====
theorem m_within (d a b : Nat) (h : hq_H) (ha : a < 2 ^ 31) : hq_Met (d + 1) MX7_isWithin [.inr (13, 0), hz_i (nI a), hz_i (nI b)] h (hz_o (hz_b (decide (hz_dif a b = 0)))) h := by
  have hd := hz_dif_lt b ha
  refine inX7_isWithin d 0 (nI a) (nI b) h _ _ (fun _ => trivial) (fun J b0 => b0 _ _ _ ?_)
  have e : (nI a &&& (nI b ^^^ -1) = 0) ↔ hz_dif a b = 0 := hz_difI b ha
  refine hq_nc (fun c => ?_) (fun c => ?_)
  · exact ⟨Or.inl rfl, hz_rf (decide_eq_false (fun z => c (e.mpr z))), rfl⟩
  · exact ⟨Or.inr rfl, hz_rb (decide_eq_true (e.mp c)), rfl⟩
theorem m_small (d : Nat) (h : hq_H) (st : hz_St) (Q : hm_Q h st) (hok : hz_okS st) : hq_Met (d + 4) MX7_smallest [.inr (13, 0)] h (hz_o (hz_small st)) (hm_lk h st) := by
  have n10 := hok.1
  have p10 := hz_p10 n10
  refine inX7_smallest (d + 3) 0 h _ _ (fun _ => trivial) (fun J b0 b22 b50 => b0 _ _ _ ?_)
  refine ⟨_, m_looks d h st Q hok, ?_⟩
  refine ⟨_, _, m_force d (hm_lk h st) st Q.1 n10, ?_⟩
  refine ⟨0, by decide, rfl, ?_⟩
  have Q1 := hm_lk_Q Q
  have W1 := hm_lk_W h st
  generalize hm_lk h st = h1 at *
  have key := hq_dw (P := fun k => k ≤ 2 ^ st.1 → ∀ o, hb_best (hz_cl st) k (2 ^ st.1) o → ∀ v4, J 22 [some (.inr (13, 0)), some (hz_i (nI (hz_force st))), some (hz_i (hz_on o)), some (hz_i (nI k + (-1))), v4] [] h1) (2 ^ st.1) (fun _ o ho v4 => b22 _ _ _ (hq_bt (show nI 0 + (-1) < 0 by decide) ⟨hz_ri (by rw [hb_uniq ho (hb_asc _ _)]; rfl), rfl⟩)) (fun k hk ih _ o ho v4 => ?_) (2 ^ st.1) (Nat.le_refl _) (Nat.le_refl _) none (fun j h1 h2 => absurd h2 (by omega)) none
  · rw [← hz_m1, ← hz_pwn n10, ← Q1.1.1] at key
    exact key
  · rw [pk_m1]
    refine b22 _ _ _ (hq_bf (nI_pos (by omega)) ?_)
    refine ⟨_, _, m_within (d + 2) k (hz_force st) h1 (by omega), ?_⟩
    have ih := ih (by omega) (hb_d (hz_cl st) k o) (hb_dn hk ho)
    have no : hz_cl st k = false → J 50 [some (.inr (13, 0)), some (hz_i (nI (hz_force st))), some (hz_i (hz_on o)), some (hz_i (nI k)), v4] [hz_i 0] h1 := fun c => b50 _ _ _ (hq_bt rfl (by
      rw [show hb_d (hz_cl st) k o = o from if_neg (by rw [c]; decide)] at ih
      exact ih _))
    by_cases c : hz_dif k (hz_force st) = 0
    · rw [decide_eq_true c]
      refine hq_bf hz_one0 ?_
      refine ⟨_, _, m_woa (d + 1) h1 st Q1.1 n10 W1 rfl (by omega), ?_⟩
      refine hq_nc (fun c2 => no ?_) (fun c2 => b50 _ _ _ (hq_bf hz_one0 ?_))
      · unfold hz_cl
        rw [decide_eq_false (fun z => c2 ((hz_cmp0 _).mpr z)), Bool.and_false]
      · have pk : hz_cl st k = true := by
          unfold hz_cl
          rw [decide_eq_true c, decide_eq_true ((hz_cmp0 _).mp c2)]
          rfl
        cases o with
        | none =>
          rw [show hb_d (hz_cl st) k none = some k from if_pos pk] at ih
          exact hq_bt (show (-1 : Int32) < 0 by decide) (ih _)
        | some b =>
          have lb := ho.1
          rw [show hb_d (hz_cl st) k (some b) = if hz_pc k ≤ hz_pc b then some k else some b from if_pos pk] at ih
          have l1 := hz_pc_le k (by omega)
          have l2 := hz_pc_le b (by omega)
          refine hq_bf (nI_pos (by omega)) ?_
          refine ⟨_, _, m_cnt (d + 2) rfl h1 (by omega), _, _, m_cnt (d + 2) rfl h1 (by omega), ?_⟩
          refine hq_bc (fun c3 => ?_) (fun c3 => ?_)
          · rw [if_neg (fun z => nI_nlt z (by omega) c3)] at ih
            exact ih _
          · rw [if_pos (Nat.le_of_not_lt (fun z => c3 (nI_lt z (by omega))))] at ih
            exact ih _
    · rw [decide_eq_false c]
      exact hq_bt rfl (no (by unfold hz_cl; rw [decide_eq_false c]; rfl))
theorem m_meet (d : Nat) (h : hq_H) (st : hz_St) (H : hm_S (h.1 14 0) st) (n10 : st.1 ≤ 10) : hq_Met (d + 4) MX7_smallestMeeting [.inr (13, 0)] h (hz_o (hz_small st)) h := by
  have p10 := hz_p10 n10
  have es : hz_small st = hz_on (hz_asc (hb_mt st) (2 ^ st.1)) := congrArg hz_on (hz_asc_cong (fun k _ => (hb_mt_cl st).symm))
  rw [es]
  refine inX7_smallestMeeting (d + 3) 0 h _ _ (fun _ => trivial) (fun J b0 b9 b32 b68 => b0 _ _ _ ?_)
  refine ⟨_, _, m_force d h st H n10, ?_⟩
  have ee : (1 : Int32) <<< (h.1 14 0 0 &&& 31) = nI (2 ^ st.1) := by rw [H.1, hz_pwn n10]
  refine hq_up (P := fun k => ∀ v4 v5, J 9 [some (.inr (13, 0)), some (hz_i (nI (hz_force st))), some (hz_i (hz_on (hz_asc (hb_mt st) k))), some (hz_i (nI k)), v4, v5] [] h) (2 ^ st.1) (fun v4 v5 => b9 _ _ _ ?_) (fun k hk ih v4 v5 => b9 _ _ _ ?_) 0 (Nat.zero_le _) _ _
  · refine ⟨0, by decide, rfl, ?_⟩
    exact hq_bt (hz_le ee rfl (Nat.le_refl _) (by omega)) ⟨rfl, rfl⟩
  · refine ⟨0, by decide, rfl, ?_⟩
    refine hq_bf (hz_nle ee rfl hk (by omega)) ?_
    refine ⟨_, _, m_within (d + 2) k (hz_force st) h (by omega), ?_⟩
    rw [nI_succ k] at ih
    have fin : ∀ x v5, hb_mt st k = x → J 68 [some (.inr (13, 0)), some (hz_i (nI (hz_force st))), some (hz_i (hz_on (hz_asc (hb_mt st) k))), some (hz_i (nI k)), some (hz_i (hz_b x)), v5] [] h := by
      intro x v5 hx
      refine b68 _ _ _ ?_
      cases x with
      | false =>
        rw [hz_asc_n hx] at ih
        exact hq_bt rfl (ih _ _)
      | true =>
        refine hq_bf hz_one0 ?_
        cases e : hz_asc (hb_mt st) k with
        | none =>
          rw [hz_asc_y0 hx e] at ih
          exact hq_bt (show (-1 : Int32) < 0 by decide) (ih _ _)
        | some b =>
          have lb := hz_asc_lt e
          rw [hz_asc_y1 hx e] at ih
          have l1 := hz_pc_le k (by omega)
          have l2 := hz_pc_le b (by omega)
          refine hq_bf (nI_pos (by omega)) ?_
          refine ⟨_, _, m_cnt (d + 2) rfl h (by omega), _, _, m_cnt (d + 2) rfl h (by omega), ?_⟩
          refine hq_bc (fun c3 => ?_) (fun c3 => ?_)
          · rw [if_neg (fun z => nI_ge z (by omega) c3)] at ih
            exact ih _ _
          · rw [if_pos (Nat.lt_of_not_le (fun z => c3 (nI_le z (by omega))))] at ih
            exact ih _ _
    refine hq_up (P := fun j => J 32 [some (.inr (13, 0)), some (hz_i (nI (hz_force st))), some (hz_i (hz_on (hz_asc (hb_mt st) k))), some (hz_i (nI k)), some (hz_i (hz_b (decide (hz_dif k (hz_force st) = 0) && hz_all (fun w => !decide (k &&& hz_broke st (nI w) = 0)) j))), some (hz_i (nI j))] [] h) 64 (b32 _ _ _ ?_) (fun j hj ih2 => b32 _ _ _ ?_) 0 (Nat.zero_le _) |> fun key => ?_
    · rw [show (decide (hz_dif k (hz_force st) = 0) && hz_all (fun w => !decide (k &&& hz_broke st (nI w) = 0)) 0) = decide (hz_dif k (hz_force st) = 0) from Bool.and_true _] at key
      exact key
    · exact hq_bt (hz_le (a := 64) (b := 64) rfl rfl (Nat.le_refl _) (by decide)) (fin _ _ rfl)
    · refine hq_bf (hz_nle (a := 64) (b := j) rfl rfl hj (by decide)) ?_
      have s : (decide (hz_dif k (hz_force st) = 0) && hz_all (fun w => !decide (k &&& hz_broke st (nI w) = 0)) (j + 1)) = ((decide (hz_dif k (hz_force st) = 0) && hz_all (fun w => !decide (k &&& hz_broke st (nI w) = 0)) j) && !decide (k &&& hz_broke st (nI j) = 0)) := (Bool.and_assoc _ _ _).symm
      rw [s, nI_succ j] at ih2
      cases c : (decide (hz_dif k (hz_force st) = 0) && hz_all (fun w => !decide (k &&& hz_broke st (nI w) = 0)) j) with
      | false =>
        refine hq_bt rfl (fin false _ (ts_nt (fun z => ?_)))
        have z : (decide (hz_dif k (hz_force st) = 0) && hz_all (fun w => !decide (k &&& hz_broke st (nI w) = 0)) 64) = true := z
        rw [Bool.and_eq_true, hz_all_iff] at z
        rw [z.1, hz_all_iff.mpr (fun i hi => z.2 i (by omega))] at c
        cases c
      | true =>
        rw [c, Bool.true_and] at ih2
        refine hq_bf hz_one0 ?_
        refine ⟨_, _, m_broke d (nI j) h st H n10, ?_⟩
        have e := hz_andI (a := k) (hz_broke st (nI j)) (by omega)
        refine hq_bc (fun c2 => ?_) (fun c2 => ?_)
        · rw [decide_eq_true (e.mp c2)] at ih2
          exact ih2
        · rw [decide_eq_false (fun z => c2 (e.mpr z))] at ih2
          exact ih2
theorem hb_nar (st : hz_St) {K : Nat} (hK : K < 2 ^ st.1) : ∀ m, hz_nar st (st.1 + m) K = hz_nar st st.1 K
  | 0 => rfl
  | m + 1 => by
    have e : hz_dif K (2 ^ (st.1 + m)) = K := by
      apply Nat.eq_of_testBit_eq
      intro i
      rw [hz_dif_bit, Nat.testBit_two_pow]
      by_cases z : st.1 + m = i
      · rw [Nat.testBit_lt_two_pow (Nat.lt_of_lt_of_le hK (Nat.pow_le_pow_right (by decide) (by omega)))]
        rfl
      · rw [decide_eq_false z]
        exact Bool.and_true _
    show hz_nar st (st.1 + m) (if hz_stand st (hz_dif K (2 ^ (st.1 + m))) = 0 then hz_dif K (2 ^ (st.1 + m)) else K) = _
    rw [e]
    have e2 : (if hz_stand st K = 0 then K else K) = K := by split <;> rfl
    rw [e2]
    exact hb_nar st hK m
theorem m_narrowed (d : Nat) (h : hq_H) (st : hz_St) (Q : hm_Q h st) (hok : hz_okS st) : hq_Met (d + 4) MX7_narrowed [.inr (13, 0)] h (hz_o (hz_narrowed st)) (hm_lk h st) := by
  have n10 := hok.1
  have p10 := hz_p10 n10
  have F2 := hz_force_lt st
  have e10 : hz_nar st 10 (hz_force st) = hz_nar st st.1 (hz_force st) := by
    have := hb_nar st F2 (10 - st.1)
    rw [show st.1 + (10 - st.1) = 10 by omega] at this
    exact this
  refine inX7_narrowed (d + 3) 0 h _ _ (fun _ => trivial) (fun J b0 b30 => b0 _ _ _ ?_)
  refine ⟨_, m_looks d h st Q hok, ?_⟩
  refine ⟨_, _, m_force d (hm_lk h st) st Q.1 n10, ?_⟩
  have Q1 := hm_lk_Q Q
  have W1 := hm_lk_W h st
  generalize hm_lk h st = h1 at *
  refine ⟨_, _, m_woa (d + 1) h1 st Q1.1 n10 W1 rfl (by omega), ?_⟩
  refine hq_bc (fun c => ?_) (fun c => ?_)
  · have c := (hz_cmp0 _).mp c
    have er : hz_narrowed st = nI (hz_nar st st.1 (hz_force st)) := (if_pos c).trans (congrArg nI e10)
    rw [er] at b30
    refine ⟨0, by decide, rfl, ?_⟩
    have key := hq_dw (P := fun r => r ≤ st.1 → ∀ K v, K < 2 ^ st.1 → nI (hz_nar st st.1 (hz_force st)) = nI (hz_nar st r K) → J 30 [some (.inr (13, 0)), some (hz_i (nI K)), some (hz_i (nI r + -1)), v] [] h1) st.1 (fun _ K v _ e => b30 _ _ _ (hq_bt (show nI 0 + -1 < 0 by decide) ⟨hz_ri e, rfl⟩)) (fun r hr ih _ K v hK e => ?_) st.1 (Nat.le_refl _) (Nat.le_refl _) (hz_force st) none F2 rfl
    · rw [← hz_m1, ← Q1.1.1] at key
      exact key
    · rw [pk_m1]
      refine b30 _ _ _ (hq_bf (nI_pos (by omega)) ?_)
      have e1 := hz_pw (k := r) (by omega)
      have e2 : nI K &&& (((1 : Int32) <<< (nI r &&& 31)) ^^^ -1) = nI (hz_dif K (2 ^ r)) := by rw [e1]; exact hz_difN _ _
      have ld : hz_dif K (2 ^ r) < 2 ^ st.1 := hz_dif_lt _ hK
      refine ⟨_, _, m_woa (d + 1) h1 st Q1.1 n10 W1 e2 (by omega), ?_⟩
      refine hq_nc (fun c2 => ?_) (fun c2 => ?_)
      · refine ih (by omega) K _ hK (e.trans ?_)
        show nI (hz_nar st r (if hz_stand st (hz_dif K (2 ^ r)) = 0 then hz_dif K (2 ^ r) else K)) = _
        rw [if_neg (fun z => c2 ((hz_cmp0 _).mpr z))]
      · have ih := ih (by omega) (hz_dif K (2 ^ r)) (some (hz_i (nI (hz_dif K (2 ^ r))))) ld (e.trans (by
          show nI (hz_nar st r (if hz_stand st (hz_dif K (2 ^ r)) = 0 then hz_dif K (2 ^ r) else K)) = _
          rw [if_pos ((hz_cmp0 _).mp c2)]))
        rw [← e2] at ih
        exact ih
  · exact ⟨hz_ri (if_neg (fun z => c ((hz_cmp0 _).mpr z))), rfl⟩
theorem hz_all_ext {p : Nat → Bool} {a : Nat} : ∀ {m : Nat}, (∀ k, a ≤ k → k < a + m → p k = true) → hz_all p (a + m) = hz_all p a
  | 0, _ => rfl
  | m + 1, h => by
    show (hz_all p (a + m) && p (a + m)) = _
    rw [h (a + m) (by omega) (by omega), Bool.and_true]
    exact hz_all_ext (fun k h1 h2 => h k h1 (by omega))
theorem hb_nc1 (st : hz_St) (hn : st.1 ≤ 10) {S : Nat} (hS : S < 2 ^ st.1) : hz_nc1 st S = (decide (hz_stand st S = 0) && hz_all (fun i => !S.testBit i || !decide (hz_stand st (hz_dif S (2 ^ i)) = 0)) st.1) := by
  unfold hz_nc1
  congr 1
  have := hz_all_ext (p := fun i => !S.testBit i || !decide (hz_stand st (hz_dif S (2 ^ i)) = 0)) (a := st.1) (m := 10 - st.1) (fun k h1 _ => by
    rw [Nat.testBit_lt_two_pow (Nat.lt_of_lt_of_le hS (Nat.pow_le_pow_right (by decide) h1))]
    rfl)
  rw [show st.1 + (10 - st.1) = 10 by omega] at this
  exact this
theorem m_narrow (d : Nat) (h : hq_H) (st : hz_St) (H : hm_S (h.1 14 0) st) (hn : st.1 ≤ 10) (hW : ∀ k, k < st.1 → h.2 17 0 k = hz_held st.2.1 k) {S : Nat} (hS : S < 2 ^ st.1) : hq_Met (d + 3) MX7_isNarrow [.inr (13, 0), hz_i (nI S)] h (hz_o (hz_b (hz_nc1 st S))) h := by
  have p10 := hz_p10 hn
  rw [hb_nc1 st hn hS]
  refine inX7_isNarrow (d + 2) 0 (nI S) h _ _ (fun _ => trivial) (fun J b0 b18 => b0 _ _ _ ?_)
  refine ⟨_, _, m_woa d h st H hn hW rfl (by omega), ?_⟩
  have key := hq_up (P := fun k => J 18 [some (.inr (13, 0)), some (hz_i (nI S)), some (hz_i (hz_b (decide (hz_stand st S = 0) && hz_all (fun i => !S.testBit i || !decide (hz_stand st (hz_dif S (2 ^ i)) = 0)) k))), some (hz_i (nI k))] [] h) st.1 (b18 _ _ _ ?_) (fun k hk ih => b18 _ _ _ ?_) 0 (Nat.zero_le _)
  · rw [show (decide (hz_stand st S = 0) && hz_all (fun i => !S.testBit i || !decide (hz_stand st (hz_dif S (2 ^ i)) = 0)) 0) = decide (hz_stand st S = 0) from Bool.and_true _] at key
    refine hq_nc (fun c => ?_) (fun c => ?_)
    · rw [decide_eq_false (fun z => c ((hz_cmp0 _).mpr z))] at key
      exact key
    · rw [decide_eq_true ((hz_cmp0 _).mp c)] at key
      exact key
  · refine ⟨0, by decide, rfl, ?_⟩
    exact hq_bt (hz_le H.1 rfl (Nat.le_refl _) (by omega)) ⟨hz_bz _, rfl, rfl⟩
  · refine ⟨0, by decide, rfl, ?_⟩
    refine hq_bf (hz_nle H.1 rfl hk (by omega)) ?_
    have s : (decide (hz_stand st S = 0) && hz_all (fun i => !S.testBit i || !decide (hz_stand st (hz_dif S (2 ^ i)) = 0)) (k + 1)) = ((decide (hz_stand st S = 0) && hz_all (fun i => !S.testBit i || !decide (hz_stand st (hz_dif S (2 ^ i)) = 0)) k) && (!S.testBit k || !decide (hz_stand st (hz_dif S (2 ^ k)) = 0))) := (Bool.and_assoc _ _ _).symm
    rw [s, nI_succ k] at ih
    cases c : (decide (hz_stand st S = 0) && hz_all (fun i => !S.testBit i || !decide (hz_stand st (hz_dif S (2 ^ i)) = 0)) k) with
    | false =>
      rw [c, Bool.false_and] at ih
      exact hq_bt rfl ih
    | true =>
      rw [c, Bool.true_and] at ih
      refine hq_bf hz_one0 ?_
      refine ⟨_, _, m_isIn (d + 1) h rfl rfl (by omega) (show k < 31 by omega), ?_⟩
      cases t : S.testBit k with
      | false =>
        rw [t] at ih
        exact hq_bt rfl ih
      | true =>
        rw [t] at ih
        refine hq_bf hz_one0 ?_
        have e2 : nI S &&& (((1 : Int32) <<< (nI k &&& 31)) ^^^ -1) = nI (hz_dif S (2 ^ k)) := by rw [hz_pw (k := k) (by omega)]; exact hz_difN _ _
        have ld : hz_dif S (2 ^ k) < 2 ^ st.1 := hz_dif_lt _ hS
        refine ⟨_, _, m_woa d h st H hn hW e2 (by omega), ?_⟩
        refine hq_bc (fun c2 => ?_) (fun c2 => ?_)
        · rw [decide_eq_true ((hz_cmp0 _).mp c2)] at ih
          exact ih
        · rw [decide_eq_false (fun z => c2 ((hz_cmp0 _).mpr z))] at ih
          exact ih
theorem m_narrows (d : Nat) (h : hq_H) (st : hz_St) (Q : hm_Q h st) (hok : hz_okS st) : hq_Met (d + 4) MX7_narrows [.inr (13, 0)] h (hz_o (nI (hz_narrows st))) (hm_lk h st) := by
  have n10 := hok.1
  have p10 := hz_p10 n10
  refine inX7_narrows (d + 3) 0 h _ _ (fun _ => trivial) (fun J b0 b13 => b0 _ _ _ ?_)
  refine ⟨_, m_looks d h st Q hok, ?_⟩
  refine ⟨_, _, m_force d (hm_lk h st) st Q.1 n10, ?_⟩
  have Q1 := hm_lk_Q Q
  have W1 := hm_lk_W h st
  generalize hm_lk h st = h1 at *
  have ee : (1 : Int32) <<< (h1.1 14 0 0 &&& 31) = nI (2 ^ st.1) := by rw [Q1.1.1, hz_pwn n10]
  refine hq_up (P := fun k => J 13 [some (.inr (13, 0)), some (hz_i (nI (hz_force st))), some (hz_i (nI (hz_cnt (hz_ncs st) k))), some (hz_i (nI k))] [] h1) (2 ^ st.1) (b13 _ _ _ ?_) (fun k hk ih => b13 _ _ _ ?_) 0 (Nat.zero_le _)
  · refine ⟨0, by decide, rfl, ?_⟩
    exact hq_bt (hz_le ee rfl (Nat.le_refl _) (by omega)) ⟨rfl, rfl⟩
  · refine ⟨0, by decide, rfl, ?_⟩
    refine hq_bf (hz_nle ee rfl hk (by omega)) ?_
    refine ⟨_, _, m_within (d + 2) k (hz_force st) h1 (by omega), ?_⟩
    have s : hz_cnt (hz_ncs st) (k + 1) = hz_cnt (hz_ncs st) k + (if (decide (hz_dif k (hz_force st) = 0) && hz_nc1 st k) = true then 1 else 0) := rfl
    rw [s, nI_succ k] at ih
    cases c : decide (hz_dif k (hz_force st) = 0) with
    | false =>
      rw [c, Bool.false_and, ← nI_add] at ih
      exact hq_bt rfl ih
    | true =>
      rw [c, Bool.true_and] at ih
      refine hq_bf hz_one0 ?_
      refine ⟨_, _, m_narrow d h1 st Q1.1 n10 W1 hk, ?_⟩
      cases c2 : hz_nc1 st k with
      | false =>
        rw [c2, ← nI_add] at ih
        exact hq_bt rfl ih
      | true =>
        rw [c2, ← nI_add] at ih
        exact hq_bf hz_one0 ih
theorem m_few (d : Nat) (h : hq_H) (st : hz_St) (H : hm_S (h.1 14 0) st) (n10 : st.1 ≤ 10) : hq_Met (d + 4) MX7_waivers [.inr (13, 0)] h (hz_o (nI (hz_few st 63))) h := by
  have p10 := hz_p10 n10
  refine inX7_waivers (d + 3) 0 h _ _ (fun _ => trivial) (fun J b0 b8 b52 => b0 _ _ _ ?_)
  refine ⟨_, _, m_broke d 0 h st H n10, ?_⟩
  refine hq_up (P := fun k => ∀ v3 v4, J 8 [some (.inr (13, 0)), some (hz_i (nI (hz_few st k))), some (hz_i (nI (k + 1))), v3, v4] [] h) 63 (fun v3 v4 => b8 _ _ _ (hq_bt (hz_le (a := 64) (b := 64) rfl rfl (Nat.le_refl _) (by decide)) ⟨rfl, rfl⟩)) (fun k hk ih v3 v4 => b8 _ _ _ ?_) 0 (Nat.zero_le _) _ _
  refine hq_bf (hz_nle (a := 64) (b := k + 1) rfl rfl (by omega) (by decide)) ?_
  have ls := hz_broke_lt st (nI (k + 1))
  have lb := hz_few_lt st k
  refine ⟨_, _, m_broke d (nI (k + 1)) h st H n10, ?_⟩
  rw [hz_few_s, nI_succ (k + 1)] at ih
  generalize hz_broke st (nI (k + 1)) = s at *
  generalize hz_few st k = b at *
  have l1 := hz_pc_le s (by omega)
  have l2 := hz_pc_le b (by omega)
  have yes : (hz_pc s < hz_pc b ∨ (hz_pc s = hz_pc b ∧ s < b)) → J 52 [some (.inr (13, 0)), some (hz_i (nI b)), some (hz_i (nI (k + 1))), some (hz_i (nI s)), v4] [hz_i 1] h := fun z => b52 _ _ _ (hq_bf hz_one0 (by
    rw [if_pos z] at ih
    exact ih _ _))
  have no : ¬ (hz_pc s < hz_pc b ∨ (hz_pc s = hz_pc b ∧ s < b)) → J 52 [some (.inr (13, 0)), some (hz_i (nI b)), some (hz_i (nI (k + 1))), some (hz_i (nI s)), v4] [hz_i 0] h := fun z => b52 _ _ _ (hq_bt rfl (by
    rw [if_neg z] at ih
    exact ih _ _))
  refine ⟨_, _, m_cnt (d + 2) rfl h (by omega), _, _, m_cnt (d + 2) rfl h (by omega), ?_⟩
  refine hq_bc (fun c => yes (Or.inl ((nI_ltI (by omega) (by omega)).mp c))) (fun c => ?_)
  have c := fun z => c ((nI_ltI (a := hz_pc s) (b := hz_pc b) (by omega) (by omega)).mpr z)
  refine ⟨_, _, m_cnt (d + 2) rfl h (by omega), _, _, m_cnt (d + 2) rfl h (by omega), ?_⟩
  refine hq_nc (fun c2 => no (fun z => ?_)) (fun c2 => ?_)
  · rcases z with z | z
    · exact c z
    · exact c2 (congrArg nI z.1)
  · have c2 := (nI_eq (a := hz_pc s) (b := hz_pc b) (by omega) (by omega)).mp c2
    refine hq_bc (fun c3 => no (fun z => ?_)) (fun c3 => yes (Or.inr ⟨c2, Nat.lt_of_not_le (fun z => c3 (nI_le z (by omega)))⟩))
    rcases z with z | z
    · exact c z
    · exact nI_ge z.2 (by omega) c3
theorem m_fws (d : Nat) (h : hq_H) (st : hz_St) (Q : hm_Q h st) (hok : hz_okS st) : hq_Met (d + 4) MX7_waiversBySets [.inr (13, 0)] h (hz_o (nI (hz_fws st))) (hm_lk h st) := by
  have n10 := hok.1
  have p10 := hz_p10 n10
  have F2 := hz_force_lt st
  refine inX7_waiversBySets (d + 3) 0 h _ _ (fun _ => trivial) (fun J b0 b22 b54 => b0 _ _ _ ?_)
  refine ⟨_, m_looks d h st Q hok, ?_⟩
  refine ⟨_, _, m_force d (hm_lk h st) st Q.1 n10, ?_⟩
  refine ⟨0, by decide, rfl, ?_⟩
  have Q1 := hm_lk_Q Q
  have W1 := hm_lk_W h st
  generalize hm_lk h st = h1 at *
  have key := hq_dw (P := fun k => k ≤ 2 ^ st.1 → ∀ b, hb_best (hz_fr st) k (2 ^ st.1) (some b) → ∀ v4, J 22 [some (.inr (13, 0)), some (hz_i (nI (hz_force st))), some (hz_i (nI b)), some (hz_i (nI k + (-1))), v4] [] h1) (2 ^ st.1) (fun _ b hb v4 => b22 _ _ _ (hq_bt (show nI 0 + (-1) < 0 by decide) ⟨hz_ri (congrArg hz_on (hb_uniq (hb_fws st n10) hb)), rfl⟩)) (fun k hk ih _ b hb v4 => ?_) (2 ^ st.1) (Nat.le_refl _) (Nat.le_refl _) (hz_force st) ⟨F2, hb_fr_F st, fun j h1 h2 _ => absurd h2 (by omega)⟩ none
  · rw [← hz_m1, ← hz_pwn n10, ← Q1.1.1] at key
    exact key
  · rw [pk_m1]
    refine b22 _ _ _ (hq_bf (nI_pos (by omega)) ?_)
    refine ⟨_, _, m_within (d + 2) k (hz_force st) h1 (by omega), ?_⟩
    have lb := hb.1
    have bd := hb_dn hk hb
    have ih := ih (by omega)
    have no : hz_fr st k = false → J 54 [some (.inr (13, 0)), some (hz_i (nI (hz_force st))), some (hz_i (nI b)), some (hz_i (nI k)), v4] [hz_i 0] h1 := fun c => b54 _ _ _ (hq_bt rfl (by
      rw [show hb_d (hz_fr st) k (some b) = some b from if_neg (by rw [c]; decide)] at bd
      exact ih b bd _))
    by_cases c : hz_dif k (hz_force st) = 0
    · rw [decide_eq_true c]
      refine hq_bf hz_one0 ?_
      refine ⟨_, _, m_woa (d + 1) h1 st Q1.1 n10 W1 (hz_difN (hz_force st) k) (hz_dif_lt _ (by omega)), ?_⟩
      refine hq_bc (fun c2 => no ?_) (fun c2 => b54 _ _ _ (hq_bf hz_one0 ?_))
      · unfold hz_fr
        rw [decide_eq_true ((hz_cmp0 _).mp c2)]
        exact Bool.and_false _
      · have pk : hz_fr st k = true := by
          unfold hz_fr
          rw [decide_eq_true c, decide_eq_false (fun z => c2 ((hz_cmp0 _).mpr z))]
          rfl
        rw [show hb_d (hz_fr st) k (some b) = if hz_pc k ≤ hz_pc b then some k else some b from if_pos pk] at bd
        have l1 := hz_pc_le k (by omega)
        have l2 := hz_pc_le b (by omega)
        refine ⟨_, _, m_cnt (d + 2) rfl h1 (by omega), _, _, m_cnt (d + 2) rfl h1 (by omega), ?_⟩
        refine hq_bc (fun c3 => ?_) (fun c3 => ?_)
        · rw [if_neg (fun z => nI_nlt z (by omega) c3)] at bd
          exact ih _ bd _
        · rw [if_pos (Nat.le_of_not_lt (fun z => c3 (nI_lt z (by omega))))] at bd
          exact ih _ bd _
    · rw [decide_eq_false c]
      exact hq_bt rfl (no (by unfold hz_fr; rw [decide_eq_false c]; rfl))
