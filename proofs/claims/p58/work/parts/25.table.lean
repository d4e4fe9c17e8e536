-- ===== the table of sets =====
def hw_tb (h : hq_H) (T : Nat → Int64) (m : Nat) : hq_H := (h.1, fun k i s => if k = 12 ∧ i = 0 ∧ s < m then T s else h.2 k i s)
theorem hw_tb_s (h : hq_H) (T : Nat → Int64) (m : Nat) : hq_sl (hw_tb h T m) 12 0 m (T m) = hw_tb h T (m + 1) := by
  refine hq_ext (fun _ _ _ => rfl) (fun k i s => ?_)
  rw [hq_sl_at]
  show (if k = 12 ∧ s = m ∧ i = 0 then T m else if k = 12 ∧ i = 0 ∧ s < m then T s else h.2 k i s) = if k = 12 ∧ i = 0 ∧ s < m + 1 then T s else h.2 k i s
  by_cases c : k = 12 ∧ i = 0
  · obtain ⟨rfl, rfl⟩ := c
    by_cases e : s = m
    · subst e
      rw [if_pos ⟨rfl, rfl, rfl⟩, if_pos ⟨rfl, rfl, Nat.lt_succ_self _⟩]
    · rw [if_neg (fun z => e z.2.1)]
      by_cases l : s < m
      · rw [if_pos ⟨rfl, rfl, l⟩, if_pos ⟨rfl, rfl, by omega⟩]
      · rw [if_neg (fun z => l z.2.2), if_neg (fun z => by have := z.2.2; omega)]
  · rw [if_neg (fun z => c ⟨z.1, z.2.2⟩), if_neg (fun z => c ⟨z.1, z.2.1⟩), if_neg (fun z => c ⟨z.1, z.2.1⟩)]
theorem hw_tb_0 (h : hq_H) (T : Nat → Int64) : hw_tb h T 0 = h := by
  refine hq_ext (fun _ _ _ => rfl) (fun k i s => ?_)
  exact if_neg (fun z => Nat.not_lt_zero _ z.2.2)
theorem hw_tb_at {h : hq_H} {T : Nat → Int64} {m s : Nat} (hs : s < m) : (hw_tb h T m).2 12 0 s = T s := if_pos ⟨rfl, rfl, hs⟩
theorem hw_tb_st (h : hq_H) (T : Nat → Int64) (m : Nat) : hw_stay (fun k _ => 7 ≤ k ∧ k < 13) h (hw_tb h T m) := by
  intro k i hn
  refine ⟨rfl, ?_⟩
  funext s
  exact if_neg (fun z => hn ⟨by omega, by omega⟩)
theorem hz_RC_free {h h1 : hq_H} {w : hz_W} (H : hz_RC h w) (s : hw_stay (fun k _ => 7 ≤ k ∧ k < 13) h h1) : hz_RC h1 w :=
  ⟨hz_HC_stay s H.2.1.1 (fun k i z y => by have := hw_own_k z; omega) H.1, H.2.1, hz_SN_stay s (fun y => by omega) (fun k i z y => by have := hw_own_k z; omega) H.2.2.1, hz_SV_stay s (fun y => by omega) (fun j k i _ _ z y => by have := hw_own_k z; omega) H.2.2.2.1, hz_BF_stay s (fun y => by omega) (fun y => by omega) H.2.2.2.2⟩
theorem hz_free {M : hq_M} {d : Nat} {args : List hq_V} {h h1 : hq_H} {w : hz_W} {r : hq_R} (H : hz_RC h w) (s : hw_stay (fun k _ => 7 ≤ k ∧ k < 13) h h1) (m : hq_Met d M args h r h1) : hz_Ans M d args h (r, w) := ⟨h1, m, hz_RC_free H s, s.weak (fun k i z => by show k < 13; exact z.2)⟩
theorem hz_tb_or {k r : Nat} (hr : r < 2 ^ k) (i : Nat) : (2 ^ k + r).testBit i = (r.testBit i || decide (k = i)) := by
  have := Nat.two_pow_add_eq_or_of_lt hr 1
  rw [Nat.mul_one] at this
  rw [this, Nat.testBit_or, Nat.testBit_two_pow, Bool.or_comm]
theorem hz_stand_0 (st : hz_St) : hz_stand st 0 = -1 := by
  apply hz_bl_ext
  intro k hk
  unfold hz_stand
  rw [hz_bl_ands _ _ hk, hz_bl_m1 k hk]
  exact hz_all_iff.mpr (fun i _ => by rw [Nat.zero_testBit]; rfl)
theorem hz_tb_step (st : hz_St) {k r : Nat} (hk : k < st.1) (hr : r < 2 ^ k) : hz_stand st r &&& hz_held st.2.1 k = hz_stand st (2 ^ k + r) := by
  apply hz_bl_ext
  intro w hw
  unfold hz_stand
  rw [hz_bl_and, hz_bl_ands _ _ hw, hz_bl_ands _ _ hw]
  apply Bool.eq_iff_iff.mpr
  rw [Bool.and_eq_true, hz_all_iff, hz_all_iff]
  constructor
  · intro ⟨h1, h2⟩ i hi
    have q := h1 i hi
    rw [hz_tb_or hr]
    by_cases e : k = i
    · subst e
      rw [h2, Bool.or_true]
    · rw [decide_eq_false e, Bool.or_false]
      exact q
  · intro h1
    refine ⟨fun i hi => ?_, ?_⟩
    · have q := h1 i hi
      rw [hz_tb_or hr] at q
      revert q
      cases r.testBit i <;> cases decide (k = i) <;> cases hz_bl (hz_held st.2.1 i) w <;> decide
    · have q := h1 k hk
      rw [hz_tb_or hr, decide_eq_true rfl, Bool.or_true] at q
      exact q
theorem x_of (d s : Nat) (h : hq_H) (hs : s < 1024) : hq_Met (d + 1) MX5_of [.inr (11, 0), hz_i (nI s)] h (hz_ol (h.2 12 0 s)) h := by
  refine inX5_of d 0 (nI s) h _ _ (fun _ => trivial) (fun J b0 => b0 _ _ _ ?_)
  refine hq_bf (nI_pos (by omega)) ?_
  refine hq_bf (hz_nle (a := 1024) (b := s) rfl rfl hs (by omega)) ?_
  exact ⟨s, hs, rfl, rfl, rfl⟩
theorem x_fill (d : Nat) (h : hq_H) (st : hz_St) (H : hz_HC h 0 st) (hn : st.1 ≤ 10) : hq_Met (d + 2) MX5_fill [.inr (11, 0), .inr (0, 0)] h hz_v (hw_tb h (hz_stand st) (2 ^ st.1)) := by
  refine inX5_fill (d + 1) 0 0 h _ _ (fun _ => trivial) (fun J b0 b19 b34 => b0 _ _ _ ?_)
  refine hq_bf (by decide) ?_
  refine ⟨0, by decide, rfl, ?_⟩
  have e0 : hq_sl h 12 0 0 (-1) = hw_tb h (hz_stand st) (2 ^ 0) := by
    have := hw_tb_s h (hz_stand st) 0
    rw [hw_tb_0, hz_stand_0] at this
    exact this
  show J 19 _ _ (hq_sl h 12 0 0 (-1))
  rw [e0]
  refine hq_up (P := fun k => ∀ v3 v4, J 19 [some (.inr (11, 0)), some (.inr (0, 0)), some (hz_i (nI k)), v3, v4] [] (hw_tb h (hz_stand st) (2 ^ k))) st.1 (fun v3 v4 => b19 _ _ _ ?_) (fun k hk ih v3 v4 => b19 _ _ _ ?_) 0 (Nat.zero_le _) _ _
  · exact hq_bt (hz_le (a := st.1) (b := st.1) H.1 rfl (Nat.le_refl _) (by omega)) ⟨rfl, rfl⟩
  · refine hq_bf (hz_nle H.1 rfl hk (by omega)) ?_
    have e1 := hz_pw (k := k) (by omega)
    have p10 : 2 ^ k ≤ 512 := Nat.pow_le_pow_right (show 0 < 2 by decide) (show k ≤ 9 by omega)
    rw [nI_succ] at ih
    show J 34 [some (.inr (11, 0)), some (.inr (0, 0)), some (hz_i (nI k)), some (hz_i ((1 : Int32) <<< (nI k &&& 31))), some (hz_i (nI 0))] [] (hw_tb h (hz_stand st) (2 ^ k + 0))
    rw [e1]
    refine hq_up (P := fun r => J 34 [some (.inr (11, 0)), some (.inr (0, 0)), some (hz_i (nI k)), some (hz_i (nI (2 ^ k))), some (hz_i (nI r))] [] (hw_tb h (hz_stand st) (2 ^ k + r))) (2 ^ k) (b34 _ _ _ ?_) (fun r hr ih2 => b34 _ _ _ ?_) 0 (Nat.zero_le _)
    · refine hq_bt (hz_le (a := 2 ^ k) (b := 2 ^ k) rfl rfl (Nat.le_refl _) (by omega)) ?_
      have ih := ih (some (hz_i (nI (2 ^ k)))) (some (hz_i (nI (2 ^ k))))
      rw [Nat.pow_succ, Nat.mul_two] at ih
      exact ih
    · refine hq_bf (hz_nle (a := 2 ^ k) (b := r) rfl rfl hr (by omega)) ?_
      refine hq_bf (hz_nle (a := 1024) (b := 2 ^ k + r) rfl (nI_add _ _) (by omega) (by omega)) ?_
      refine ⟨_, _, x_of d r _ (by omega), ?_⟩
      refine ⟨_, _, x_X0_at d 0 (show k < 10 by omega) _, ?_⟩
      refine ⟨2 ^ k + r, by omega, nI_add _ _, ?_⟩
      have v1 : (hw_tb h (hz_stand st) (2 ^ k + r)).2 12 0 r = hz_stand st r := hw_tb_at (by omega)
      have v2 : (hw_tb h (hz_stand st) (2 ^ k + r)).2 1 (11 * 0 + k) 6 = hz_held st.2.1 k := (show (if (1 : Nat) = 12 ∧ 11 * 0 + k = 0 ∧ 6 < 2 ^ k + r then hz_stand st 6 else h.2 1 (11 * 0 + k) 6) = _ from if_neg (fun z => absurd z.1 (by decide))).trans (H.2.2.2.2.2 k hk).2
      have v3 := hw_tb_s h (hz_stand st) (2 ^ k + r)
      rw [← hz_tb_step st hk hr, ← v1, ← v2] at v3
      rw [nI_succ, Nat.add_succ, ← v3] at ih2
      exact ih2
/-- a clash from which nothing can be left out -/
def hz_nc1 (st : hz_St) (S : Nat) : Bool := decide (hz_stand st S = 0) && hz_all (fun i => !S.testBit i || !decide (hz_stand st (hz_dif S (2 ^ i)) = 0)) 10
theorem x_narrow (d S : Nat) (h : hq_H) (st : hz_St) (hn : st.1 ≤ 10) (hS : S < 2 ^ st.1) (hT : ∀ s, s < 2 ^ st.1 → h.2 12 0 s = hz_stand st s) : hq_Met (d + 2) MX5_isNarrowClash [.inr (11, 0), hz_i (nI S)] h (hz_o (hz_b (hz_nc1 st S))) h := by
  have p10 := hz_p10 hn
  refine inX5_isNarrowClash (d + 1) 0 (nI S) h _ _ (fun _ => trivial) (fun J b0 b14 => b0 _ _ _ ?_)
  refine ⟨_, _, x_of d S h (by omega), ?_⟩
  rw [hT S hS]
  refine hq_bc (fun c => ?_) (fun c => ?_)
  · have c := (hz_cmp0 _).mp c
    refine hq_up (P := fun k => hz_all (fun i => !S.testBit i || !decide (hz_stand st (hz_dif S (2 ^ i)) = 0)) k = true → J 14 [some (.inr (11, 0)), some (hz_i (nI S)), some (hz_i (nI k))] [] h) 10 (fun e => b14 _ _ _ ?_) (fun k hk ih e => b14 _ _ _ ?_) 0 (Nat.zero_le _) rfl
    · refine hq_bt (hz_le (a := 10) (b := 10) rfl rfl (Nat.le_refl _) (by decide)) ⟨Or.inr rfl, hz_rb ?_, rfl⟩
      unfold hz_nc1
      rw [decide_eq_true c, e]
      rfl
    · refine hq_bf (hz_nle (a := 10) (b := k) rfl rfl hk (by decide)) ?_
      have ih : (hz_all (fun i => !S.testBit i || !decide (hz_stand st (hz_dif S (2 ^ i)) = 0)) k && (!S.testBit k || !decide (hz_stand st (hz_dif S (2 ^ k)) = 0))) = true → J 14 [some (.inr (11, 0)), some (hz_i (nI S)), some (hz_i (nI (k + 1)))] [] h := ih
      rw [e, Bool.true_and, nI_succ] at ih
      cases t : S.testBit k with
      | false =>
        rw [t] at ih
        exact hq_bt (hz_bit0 (by omega) (by omega) t) (ih rfl)
      | true =>
        rw [t] at ih
        refine hq_bf (hz_bitn (by omega) (by omega) t) ?_
        have e1 := hz_pw (k := k) (by omega)
        have ld : hz_dif S (2 ^ k) < 2 ^ st.1 := hz_dif_lt _ hS
        have m := x_of d (hz_dif S (2 ^ k)) h (by omega)
        rw [← hz_difN, ← e1, hT _ ld] at m
        refine ⟨_, _, m, ?_⟩
        refine hq_nc (fun c2 => ?_) (fun c2 => ?_)
        · exact ih (by rw [decide_eq_false (fun z => c2 ((hz_cmp0 _).mpr z))]; rfl)
        · refine ⟨Or.inl rfl, hz_rf ?_, rfl⟩
          unfold hz_nc1
          refine hz_andR (ts_nt (fun z => ?_))
          have q := hz_all_iff.mp z k hk
          rw [t, decide_eq_true ((hz_cmp0 _).mp c2)] at q
          cases q
  · refine ⟨Or.inl rfl, hz_rf ?_, rfl⟩
    unfold hz_nc1
    rw [decide_eq_false (fun z => c ((hz_cmp0 _).mpr z))]
    rfl
