-- ===== numbers =====
def hn_k (st : hz_St) : Nat → Int32
  | 0 => 31 * (31 * 59 + nI st.1 + 11 * st.2.2.1 + 709 * st.2.2.2.1) + st.2.2.2.2.1
  | k + 1 => 31 * (31 * hn_k st k + st.2.1 k 0 + 64 * st.2.1 k 1 + 4099 * st.2.1 k 2) + st.2.1 k 3 + 2 * hz_wd (st.2.1 k 4 - st.2.2.2.1) + 67 * st.2.1 k 5
def hn_n (st : hz_St) : Int32 := hn_k st st.1
theorem t_numbers (h : hq_H) (w : hz_W) (R : hz_RC h w) : hq_Met 21 ML_numbers [.inr (3, 0)] h (hz_o (hn_n w.1)) h := by
  have n10 := R.2.1.1
  refine inL_numbers 20 0 h _ _ (fun _ => trivial) (fun J b0 b42 => b0 _ _ _ ?_)
  refine ⟨_, _, s_rules 15 h w R, ?_⟩
  refine ⟨_, _, s_way 15 h w R, ?_⟩
  refine ⟨_, _, s_day 15 h w R, ?_⟩
  refine ⟨_, _, s_fines 15 h w R, ?_⟩
  refine hq_up (P := fun k => J 42 [some (.inr (3, 0)), some (hz_i (hn_k w.1 k)), some (hz_i (nI k))] [] h) w.1.1 (b42 _ _ _ ?_) (fun k hk ih => b42 _ _ _ ?_) 0 (Nat.zero_le _)
  · refine ⟨_, _, s_rules 15 h w R, ?_⟩
    exact hq_bt (hz_le (a := w.1.1) (b := w.1.1) rfl rfl (Nat.le_refl _) (by omega)) ⟨rfl, rfl⟩
  · refine ⟨_, _, s_rules 15 h w R, ?_⟩
    refine hq_bf (hz_nle (a := w.1.1) (b := k) rfl rfl hk (by omega)) ?_
    refine hq_bf (hz_nle (a := 10) (b := k) rfl rfl (by omega) (by decide)) ?_
    refine ⟨_, _, v_let R hk, ?_⟩
    refine ⟨_, _, v_empty R hk, ?_⟩
    refine ⟨_, _, v_fine R hk, ?_⟩
    refine ⟨_, _, v_isStrict R hk, ?_⟩
    refine ⟨_, _, v_waived R hk, ?_⟩
    refine ⟨_, _, v_sum R hk, ?_⟩
    rw [nI_succ k] at ih
    exact ih
-- ===== cell =====
def hc_cell (L : Nat) (xs : Nat → Int32) (k : Nat) : Int32 := (if k < L then xs k else 48397 * (nI k - nI k / 4096 * 4096) + 337) &&& 2147483647
theorem t_cell (bs L : Nat) (xs : Nat → Int32) (hL : L ≤ 260) {k : Nat} (hk : k < 1000) (h : hq_H) : hq_MetW 0 21 ML_cell none (hq_XS bs L xs) [.inl (.ref bs), hz_i (nI k)] h (hz_o (hc_cell L xs k)) h := by
  refine hq_introW (ls := [some (.inl (.ref bs)), some (hz_i (nI k))]) (by decide +kernel) rfl (fun _ => Nat.le_of_ble_eq_true rfl) (fun _ => trivial) (bL_cell bs L xs 20 _ _ _ _ _ ?_)
  refine ⟨rfl, ?_⟩
  by_cases c : k < L
  · refine hq_bf (nI_ge c (by omega)) ?_
    refine ⟨rfl, k, c, by omega, rfl, ?_⟩
    refine ⟨hz_ri ?_, rfl⟩
    unfold hc_cell
    rw [if_pos c]
  · refine hq_bt (nI_le (by omega) (by omega)) ?_
    refine ⟨by decide, ?_⟩
    refine ⟨hz_ri ?_, rfl⟩
    unfold hc_cell
    rw [if_neg c]
