-- ===== shares and means =====
def hz_dv (n : Nat) : UInt64 := FP.ddiv (FP.i2d (nI n)) 4634204016564240384
theorem hz_dv_n : ∀ n, n < 65 → vf_n64 (hz_dv n) := by
  unfold vf_n64
  decide +kernel
theorem x_share (d : Nat) (h : hq_H) (st : hz_St) (H : hz_HC h 0 st) (n10 : st.1 ≤ 10) : hq_Met (d + 5) MX6_peaceShare [.inr (3, 0)] h (.inl (some (.inl (.double (hz_dv (hz_many st)))))) h := by
  have l64 : hz_many st ≤ 64 := hz_cnt_le _ 64
  have nn := hz_dv_n (hz_many st) (by omega)
  refine inX6_peaceShare (d + 4) 0 h _ _ (fun _ => trivial) (fun J b0 => b0 _ _ _ ?_)
  exact ⟨_, _, x_count d h st H n10, nn, rfl, rfl⟩
theorem t_peaceShare (d : Nat) (h : hq_H) (w : hz_W) (H : hz_RC h w) : hz_Ans MX6_peaceShare (d + 5) [.inr (3, 0)] h (.inl (some (.inl (.double (hz_dv (hz_many w.1))))), w) := hz_same H (x_share d h w.1 H.1 H.2.1.1)
/-- all fines together; their mean -/
def hz_prs (st : hz_St) : Nat := hz_ns (fun _ => true) (hz_pr st) st.1
def hz_fv (s n : Nat) : UInt32 := FP.fdiv (FP.i2f (nI s)) (FP.i2f (nI n))
theorem hz_fv_n : ∀ n, n < 10 → ∀ s, s < 91 → vf_n32 (hz_fv s (n + 1)) := by
  unfold vf_n32
  decide +kernel
def hz_mean (st : hz_St) : UInt32 := if st.1 = 0 then FP.fconst0 else hz_fv (hz_prs st) st.1
theorem x_mean (d : Nat) (h : hq_H) (st : hz_St) (H : hz_HC h 0 st) (hok : hz_okS st) : hq_Met (d + 3) MX6_meanFine [.inr (3, 0)] h (.inl (some (.inl (.float (hz_mean st))))) h := by
  have n10 := hok.1
  have p10 := hz_p10 n10
  have pp : 0 < 2 ^ st.1 := Nat.two_pow_pos _
  refine inX6_meanFine (d + 2) 0 h _ _ (fun _ => trivial) (fun J b0 => b0 _ _ _ ?_)
  unfold hz_mean
  refine hq_bc (fun c => ?_) (fun c => ?_)
  · have c : (0 : Int32) < h.1 0 0 2 := c
    rw [H.1] at c
    have n0 : ¬ st.1 = 0 := fun z => by rw [z] at c; exact absurd c (by decide)
    have e : ((1 : Int32) <<< (h.1 0 0 2 &&& 31)) - 1 = nI (2 ^ st.1 - 1) := by
      rw [H.1, hz_pw (by omega)]
      obtain ⟨q, hq⟩ : ∃ q, 2 ^ st.1 = q + 1 := ⟨2 ^ st.1 - 1, by omega⟩
      rw [hq, nI_pred]
      rfl
    have m := x_price d h st H n10 (S := 2 ^ st.1 - 1) e (by omega)
    rw [hz_ns_I (fun i hi => (hz_pr_is hok hi).1)] at m
    have es : hz_ns (fun k => (2 ^ st.1 - 1).testBit k) (hz_pr st) st.1 = hz_prs st := by
      apply Nat.le_antisymm
      · exact hz_ns_le (fun i hi _ => rfl)
      · exact hz_ns_le (fun i hi _ => by rw [Nat.testBit_two_pow_sub_one, decide_eq_true hi])
    rw [es] at m
    have l90 : hz_prs st ≤ 90 := hz_cost_90 hok _
    obtain ⟨q, hq⟩ : ∃ q, st.1 = q + 1 := ⟨st.1 - 1, by omega⟩
    have nn := hz_fv_n q (by omega) (hz_prs st) (by omega)
    rw [← hq] at nn
    unfold hz_fv at nn ⊢
    rw [if_neg n0]
    rw [← H.1] at nn ⊢
    exact ⟨_, _, m, nn, rfl, rfl⟩
  · have c : ¬ (0 : Int32) < h.1 0 0 2 := c
    rw [H.1] at c
    have n0 : st.1 = 0 := by
      by_cases z : st.1 = 0
      · exact z
      · exact absurd (hz_lt (a := 0) (b := st.1) rfl rfl (by omega) (by omega)) c
    rw [if_pos n0]
    exact ⟨rfl, rfl⟩
theorem t_meanFine (d : Nat) (h : hq_H) (w : hz_W) (H : hz_RC h w) : hz_Ans MX6_meanFine (d + 5) [.inr (3, 0)] h (.inl (some (.inl (.float (hz_mean w.1)))), w) := hz_same H (x_mean (d + 2) h w.1 H.1 H.2.1)
