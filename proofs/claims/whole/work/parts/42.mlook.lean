-- ===== the reference: looks over all ways =====
theorem hz_anyf {p : Nat → Bool} {n : Nat} : hz_any p n = false ↔ ∀ k, k < n → p k = false := by
  refine ⟨fun h k hk => ts_nt (fun z => ?_), fun h => ts_nt (fun z => ?_)⟩
  · rw [hz_any_iff.mpr ⟨k, hk, z⟩] at h
    cases h
  · obtain ⟨k, hk, y⟩ := hz_any_iff.mp z
    rw [h k hk] at y
    cases y
theorem hz_any_mono {p : Nat → Bool} {k n : Nat} (hk : k ≤ n) (h : hz_any p k = true) : hz_any p n = true := by
  obtain ⟨i, hi, y⟩ := hz_any_iff.mp h
  exact hz_any_iff.mpr ⟨i, by omega, y⟩
theorem hz_lo_cong {p q : Nat → Bool} : ∀ {m s : Nat}, (∀ k, s ≤ k → k < s + m → p k = q k) → hz_lo p m s = hz_lo q m s
  | 0, _, _ => rfl
  | m + 1, s, h => by
    show (if p s = true then nI s else hz_lo p m (s + 1)) = (if q s = true then nI s else hz_lo q m (s + 1))
    rw [h s (Nat.le_refl _) (by omega), hz_lo_cong (fun k h1 h2 => h k (by omega) (by omega))]
theorem hz_nz_any (x : Int64) : hz_nz x = hz_any (hz_bl x) 64 := by
  unfold hz_nz
  by_cases c : x = 0
  · rw [decide_eq_true c, hz_anyf.mpr ((hz_bl_z x).mp c)]
    rfl
  · rw [decide_eq_false c]
    symm
    refine ts_nf (fun z => c ((hz_bl_z x).mpr (hz_anyf.mp z)))
theorem hz_any_cong {p q : Nat → Bool} : ∀ {n : Nat}, (∀ k, k < n → p k = q k) → hz_any p n = hz_any q n
  | 0, _ => rfl
  | n + 1, h => by
    show (hz_any p n || p n) = (hz_any q n || q n)
    rw [hz_any_cong (fun k hk => h k (by omega)), h n (by omega)]
theorem hz_nz_good (st : hz_St) (S : Nat) : hz_nz (hz_stand st S) = hz_any (hz_good st S) 64 := by
  rw [hz_nz_any]
  exact hz_any_cong (fun k hk => hz_good_bl st S hk)
theorem hz_broke31 (st : hz_St) (hn : st.1 ≤ 10) (w : Int32) : hz_broke st w < 2 ^ 31 := hz_mk31 _ hn
theorem m_ws (d : Nat) (h : hq_H) (st : hz_St) (H : hm_S (h.1 14 0) st) (hn : st.1 ≤ 10) : hq_Met (d + 4) MX7_waysSplit [.inr (13, 0)] h (hz_o (nI (hz_many st))) h := by
  refine inX7_waysSplit (d + 3) 0 h _ _ (fun _ => trivial) (fun J b0 b4 => b0 _ _ _ ?_)
  refine hq_up (P := fun k => J 4 [some (.inr (13, 0)), some (hz_i (nI (hz_cnt (hz_pk st) k))), some (hz_i (nI k))] [] h) 64 (b4 _ _ _ ?_) (fun k hk ih => b4 _ _ _ ?_) 0 (Nat.zero_le _)
  · exact hq_bt (hz_le (a := 64) (b := 64) rfl rfl (Nat.le_refl _) (by decide)) ⟨rfl, rfl⟩
  · refine hq_bf (hz_nle (a := 64) (b := k) rfl rfl hk (by decide)) ?_
    refine ⟨_, _, m_broke d (nI k) h st H hn, ?_⟩
    have s : hz_cnt (hz_pk st) (k + 1) = hz_cnt (hz_pk st) k + (if hz_pk st k = true then 1 else 0) := rfl
    have b := hz_broke31 st hn (nI k)
    rw [s, nI_succ k] at ih
    refine hq_nc (fun c => ?_) (fun c => ?_)
    · have e : hz_pk st k = false := decide_eq_false (fun z => c (congrArg nI z))
      rw [e, ← nI_add] at ih
      exact ih
    · have e : hz_pk st k = true := decide_eq_true ((nI_eq (b := 0) b (by decide)).mp c)
      rw [e, ← nI_add] at ih
      exact ih
theorem m_splits (d : Nat) (h : hq_H) (st : hz_St) (H : hm_S (h.1 14 0) st) (hn : st.1 ≤ 10) {x : Int32} {S : Nat} (hx : x = nI S) (hS : S < 2 ^ 31) : hq_Met (d + 3) MX7_splits [.inr (13, 0), hz_i x] h (hz_o (hz_b (hz_nz (hz_stand st S)))) h := by
  subst hx
  rw [hz_nz_good]
  refine inX7_splits (d + 2) 0 (nI S) h _ _ (fun _ => trivial) (fun J b0 b4 b20 => b0 _ _ _ ?_)
  refine hq_up (P := fun k => ∀ v4 v5, J 4 [some (.inr (13, 0)), some (hz_i (nI S)), some (hz_i (hz_b (hz_any (hz_good st S) k))), some (hz_i (nI k)), v4, v5] [] h) 64 (fun v4 v5 => b4 _ _ _ ?_) (fun k hk ih v4 v5 => b4 _ _ _ ?_) 0 (Nat.zero_le _) _ _
  · exact hq_bt (hz_le (a := 64) (b := 64) rfl rfl (Nat.le_refl _) (by decide)) ⟨hz_bz _, rfl, rfl⟩
  · refine hq_bf (hz_nle (a := 64) (b := k) rfl rfl hk (by decide)) ?_
    have s : hz_any (hz_good st S) (k + 1) = (hz_any (hz_good st S) k || hz_good st S k) := rfl
    rw [s, nI_succ k] at ih
    cases c : hz_any (hz_good st S) k with
    | true =>
      exact hq_nt hz_one0 ⟨Or.inr rfl, hz_rb (hz_any_mono (by omega) c), rfl⟩
    | false =>
      rw [c, Bool.false_or] at ih
      refine hq_nf rfl ?_
      refine hq_up (P := fun j => J 20 [some (.inr (13, 0)), some (hz_i (nI S)), some (hz_i 0), some (hz_i (nI k)), some (hz_i (hz_b (hz_all (fun i => !S.testBit i || hz_hold (st.2.1 i 0) (st.2.1 i 1) (nI k)) j))), some (hz_i (nI j))] [] h) st.1 (b20 _ _ _ ?_) (fun j hj ih2 => b20 _ _ _ ?_) 0 (Nat.zero_le _)
      · refine ⟨0, by decide, rfl, ?_⟩
        exact hq_bt (hz_le H.1 rfl (Nat.le_refl _) (by omega)) (ih _ _)
      · refine ⟨0, by decide, rfl, ?_⟩
        refine hq_bf (hz_nle H.1 rfl hj (by omega)) ?_
        have s2 : hz_all (fun i => !S.testBit i || hz_hold (st.2.1 i 0) (st.2.1 i 1) (nI k)) (j + 1) = (hz_all (fun i => !S.testBit i || hz_hold (st.2.1 i 0) (st.2.1 i 1) (nI k)) j && (!S.testBit j || hz_hold (st.2.1 j 0) (st.2.1 j 1) (nI k))) := rfl
        rw [s2, nI_succ j] at ih2
        cases c2 : hz_all (fun i => !S.testBit i || hz_hold (st.2.1 i 0) (st.2.1 i 1) (nI k)) j with
        | false =>
          rw [c2, Bool.false_and] at ih2
          exact hq_bt rfl ih2
        | true =>
          rw [c2, Bool.true_and] at ih2
          refine hq_bf hz_one0 ?_
          refine ⟨_, _, m_isIn (d + 1) h rfl rfl hS (show j < 31 by omega), ?_⟩
          cases t : S.testBit j with
          | false =>
            rw [t] at ih2
            exact hq_bt rfl ih2
          | true =>
            rw [t] at ih2
            refine hq_bf hz_one0 ?_
            refine ⟨_, _, m_hold d j h st H hn hj rfl, ?_⟩
            cases t2 : hz_hold (st.2.1 j 0) (st.2.1 j 1) (nI k) with
            | false =>
              rw [t2] at ih2
              exact hq_bt rfl ih2
            | true =>
              rw [t2] at ih2
              exact hq_bf hz_one0 ih2
theorem m_least (d : Nat) (x : Int64) (h : hq_H) : hq_Met (d + 1) MX7_least [.inr (13, 0), hz_l x] h (hz_o (hz_lo (hz_bl x) 64 0)) h := by
  refine inX7_least d 0 x h _ _ (fun _ => trivial) (fun J b0 b6 => b0 _ _ _ ?_)
  have key := hq_dw (P := fun k => k ≤ 64 → J 6 [some (.inr (13, 0)), some (hz_l x), none, some (hz_i (hz_lo (hz_bl x) (64 - k) k)), some (hz_i (nI k + (-1)))] [] h) 64 (fun _ => b6 _ _ _ (hq_bt (show nI 0 + (-1) < 0 by decide) ⟨rfl, rfl⟩)) (fun k hk ih _ => ?_) 64 (Nat.le_refl _) (Nat.le_refl _)
  · rw [show nI 64 + (-1) = 63 by decide] at key
    exact key
  · rw [pk_m1]
    refine b6 _ _ _ (hq_bf (nI_pos (by omega)) ?_)
    have ih := ih (by omega)
    rw [show 64 - k = (64 - (k + 1)) + 1 by omega] at ih
    refine hq_nc (fun c => ?_) (fun c => ?_)
    · rw [hz_lo_n (ts_nt (fun z => c ((hz_bl_cmp hk).mpr z)))] at ih
      exact ih
    · rw [hz_lo_y ((hz_bl_cmp hk).mp c)] at ih
      exact ih
theorem hz_first_is (st : hz_St) : hz_lo (hz_bl (hz_peace st.2.1 st.1 st.2.2.2.1)) 64 0 = hz_first st := hz_lo_cong (fun k _ hk => hz_bl_peace st (by omega))
theorem hz_many_is (st : hz_St) : hz_cnt (hz_bl (hz_peace st.2.1 st.1 st.2.2.2.1)) 64 = hz_many st := hz_cnt_cong (fun k hk => hz_bl_peace st hk)
theorem m_alike (d q : Nat) (h : hq_H) (st : hz_St) (Q : hm_Q h st) (hok : hz_okS st) (hq : q < 6) : hq_Met (d + 5) MX7_alike [.inr (13, 0), hz_i (nI q)] h (hz_o (hz_com st q)) (hm_lk h st) := by
  have pb : ∀ k, k < 64 → hz_bl (hz_peace st.2.1 st.1 st.2.2.2.1) k = hz_pk st k := fun k hk => hz_bl_peace st hk
  have L := (hm_lk_Q Q).2
  have z1 : hz_peace st.2.1 st.1 st.2.2.2.1 &&& ((hm_lk h st).2 16 0 q ^^^ -1) = 0 ↔ hz_any (fun k => hz_pk st k && !k.testBit q) 64 = false := by
    rw [hz_bl_z, hz_anyf]
    refine forall_congr' (fun k => forall_congr' (fun hk => ?_))
    rw [hz_bl_and, hz_bl_not _ hk, pb k hk, L q hq k hk]
  have z2 : hz_peace st.2.1 st.1 st.2.2.2.1 &&& (hm_lk h st).2 16 0 q = 0 ↔ hz_any (fun k => hz_pk st k && k.testBit q) 64 = false := by
    rw [hz_bl_z, hz_anyf]
    refine forall_congr' (fun k => forall_congr' (fun hk => ?_))
    rw [hz_bl_and, pb k hk, L q hq k hk]
  have z0 : hz_peace st.2.1 st.1 st.2.2.2.1 = 0 ↔ hz_any (fun k => hz_pk st k && k.testBit q) 64 = false ∧ hz_any (fun k => hz_pk st k && !k.testBit q) 64 = false := by
    rw [hz_bl_z, hz_anyf, hz_anyf]
    constructor
    · intro y
      refine ⟨fun k hk => ?_, fun k hk => ?_⟩
      · rw [← pb k hk, y k hk]; rfl
      · rw [← pb k hk, y k hk]; rfl
    · intro ⟨y1, y2⟩ k hk
      have a := y1 k hk
      have b := y2 k hk
      rw [pb k hk]
      revert a b
      cases hz_pk st k <;> cases k.testBit q <;> decide
  unfold hz_com
  generalize hz_any (fun k => hz_pk st k && k.testBit q) 64 = X at *
  generalize hz_any (fun k => hz_pk st k && !k.testBit q) 64 = Y at *
  refine inX7_alike (d + 4) 0 (nI q) h _ _ (fun _ => trivial) (fun J b0 => b0 _ _ _ ?_)
  refine ⟨_, _, m_peace d h st Q hok, ?_⟩
  refine hq_nc (fun c => ?_) (fun c => ?_)
  · have c := fun z => c ((hz_cmp0 _).mpr z)
    refine ⟨q, hq, rfl, ?_⟩
    refine hq_nc (fun c1 => ?_) (fun c1 => ?_)
    · have c1 := ts_nf (fun z => c1 ((hz_cmp0 _).mpr (z1.mpr z)))
      refine ⟨q, hq, rfl, ?_⟩
      refine hq_nc (fun c2 => ?_) (fun c2 => ?_)
      · have c2 := ts_nf (fun z => c2 ((hz_cmp0 _).mpr (z2.mpr z)))
        rw [c1, c2]
        exact ⟨rfl, rfl⟩
      · have c2 := z2.mp ((hz_cmp0 _).mp c2)
        rw [c1, c2]
        exact ⟨rfl, rfl⟩
    · have c1 := z1.mp ((hz_cmp0 _).mp c1)
      have c2 : X = true := ts_nf (fun z => c (z0.mpr ⟨z, c1⟩))
      rw [c1, c2]
      exact ⟨rfl, rfl⟩
  · obtain ⟨c1, c2⟩ := z0.mp ((hz_cmp0 _).mp c)
    rw [c1, c2]
    exact ⟨rfl, rfl⟩
theorem m_fol (d i : Nat) (h : hq_H) (st : hz_St) (Q : hm_Q h st) (hok : hz_okS st) (hi : i < st.1) : hq_Met (d + 4) MX7_comesOf [.inr (13, 0), hz_i (nI i)] h (hz_o (hz_b (hz_fol st i))) (hm_lk h st) := by
  have n10 := hok.1
  have f31 := hz_force31 st n10
  refine inX7_comesOf (d + 3) 0 (nI i) h _ _ (fun _ => trivial) (fun J b0 => b0 _ _ _ ?_)
  refine ⟨_, m_looks d h st Q hok, ?_⟩
  refine ⟨_, _, m_force d (hm_lk h st) st Q.1 n10, ?_⟩
  refine ⟨2, by decide, rfl, ?_⟩
  refine ⟨_, _, m_frc (d + 1) i (hm_lk h st) st Q.1 n10 hi Q.1.2.2.1, ?_⟩
  cases c : hz_inF st.2.1 st.2.2.2.1 i with
  | false =>
    refine hq_bt rfl ⟨Or.inl rfl, hz_rf ?_, rfl⟩
    unfold hz_fol
    rw [c]
    rfl
  | true =>
    refine hq_bf hz_one0 ?_
    have eo : nI (hz_force st) &&& (((1 : Int32) <<< (nI i &&& 31)) ^^^ -1) = nI (hz_dif (hz_force st) (2 ^ i)) := by
      rw [hz_pw (by omega), hz_difN]
    refine ⟨_, _, m_woa (d + 1) (hm_lk h st) st Q.1 n10 (hm_lk_W h st) eo (hz_dif_lt _ f31), ?_⟩
    refine ⟨i, by omega, rfl, ?_⟩
    have ef := hz_fol_stand st hi c
    rw [← hm_lk_W h st i hi] at ef
    rw [ef]
    refine hq_nc (fun c2 => ?_) (fun c2 => ?_)
    · exact ⟨Or.inl rfl, hz_rf (decide_eq_false (fun z => c2 ((hz_cmp0 _).mpr z))), rfl⟩
    · exact ⟨Or.inr rfl, hz_rb (decide_eq_true ((hz_cmp0 _).mp c2)), rfl⟩
theorem m_fols (d i : Nat) (h : hq_H) (st : hz_St) (H : hm_S (h.1 14 0) st) (hn : st.1 ≤ 10) (hi : i < st.1) : hq_Met (d + 4) MX7_comesBySplitting [.inr (13, 0), hz_i (nI i)] h (hz_o (hz_b (hz_fol st i))) h := by
  refine inX7_comesBySplitting (d + 3) 0 (nI i) h _ _ (fun _ => trivial) (fun J b0 b14 => b0 _ _ _ ?_)
  refine ⟨2, by decide, rfl, ?_⟩
  refine ⟨_, _, m_frc (d + 1) i h st H hn hi H.2.2.1, ?_⟩
  have key := hq_up (P := fun k => J 14 [some (.inr (13, 0)), some (hz_i (nI i)), some (hz_i (hz_b (hz_inF st.2.1 st.2.2.2.1 i && hz_all (fun k => !decide (hz_broke st (nI k) = 2 ^ i)) k))), some (hz_i (nI k))] [] h) 64 (b14 _ _ _ ?_) (fun k hk ih => b14 _ _ _ ?_) 0 (Nat.zero_le _)
  · rw [show (hz_inF st.2.1 st.2.2.2.1 i && hz_all (fun k => !decide (hz_broke st (nI k) = 2 ^ i)) 0) = hz_inF st.2.1 st.2.2.2.1 i from Bool.and_true _] at key
    exact key
  · exact hq_bt (hz_le (a := 64) (b := 64) rfl rfl (Nat.le_refl _) (by decide)) ⟨hz_bz _, rfl, rfl⟩
  · refine hq_bf (hz_nle (a := 64) (b := k) rfl rfl hk (by decide)) ?_
    have s : (hz_inF st.2.1 st.2.2.2.1 i && hz_all (fun k => !decide (hz_broke st (nI k) = 2 ^ i)) (k + 1)) = ((hz_inF st.2.1 st.2.2.2.1 i && hz_all (fun k => !decide (hz_broke st (nI k) = 2 ^ i)) k) && !decide (hz_broke st (nI k) = 2 ^ i)) := (Bool.and_assoc _ _ _).symm
    rw [s, nI_succ k] at ih
    cases c : (hz_inF st.2.1 st.2.2.2.1 i && hz_all (fun k => !decide (hz_broke st (nI k) = 2 ^ i)) k) with
    | false =>
      rw [c, Bool.false_and] at ih
      exact hq_bt rfl ih
    | true =>
      rw [c, Bool.true_and] at ih
      refine hq_bf hz_one0 ?_
      refine ⟨_, _, m_broke d (nI k) h st H hn, ?_⟩
      have b := hz_broke31 st hn (nI k)
      have p : 2 ^ i < 2 ^ 31 := Nat.pow_lt_pow_right (by decide) (by omega)
      refine hq_bc (fun c2 => ?_) (fun c2 => ?_)
      · have c2 : nI (hz_broke st (nI k)) = (1 : Int32) <<< (nI i &&& 31) := c2
        rw [hz_pw (by omega)] at c2
        rw [decide_eq_true ((nI_eq b p).mp c2)] at ih
        exact ih
      · have c2 : ¬ nI (hz_broke st (nI k)) = (1 : Int32) <<< (nI i &&& 31) := c2
        rw [hz_pw (by omega)] at c2
        rw [decide_eq_false (fun z => c2 (congrArg nI z))] at ih
        exact ih
