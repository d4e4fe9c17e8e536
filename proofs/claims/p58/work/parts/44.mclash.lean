-- ===== the reference: clashes and waivers =====
theorem hb_nar (st : hz_St) {K : Nat} (hK : K < 2 ^ st.1) : ∀ m, hz_nar st (st.1 + m) K = hz_nar st st.1 K
  | 0 => rfl
  | m + 1 => by
    have e : hz_dif K (2 ^ (st.1 + m)) = K := by
      apply Nat.eq_of_testBit_eq
      intro i
      rw [hz_dif_bit, Nat.testBit_two_pow]
      by_cases z : st.1 + m = i
      · rw [Nat.testBit_lt_two_pow (Nat.lt_of_lt_of_le hK (Nat.pow_le_pow_right (by decide) (by omega)))]
        rfl
      · rw [decide_eq_false z]
        exact Bool.and_true _
    show hz_nar st (st.1 + m) (if hz_stand st (hz_dif K (2 ^ (st.1 + m))) = 0 then hz_dif K (2 ^ (st.1 + m)) else K) = _
    rw [e]
    have e2 : (if hz_stand st K = 0 then K else K) = K := by split <;> rfl
    rw [e2]
    exact hb_nar st hK m
theorem hz_all_ext {p : Nat → Bool} {a : Nat} : ∀ {m : Nat}, (∀ k, a ≤ k → k < a + m → p k = true) → hz_all p (a + m) = hz_all p a
  | 0, _ => rfl
  | m + 1, h => by
    show (hz_all p (a + m) && p (a + m)) = _
    rw [h (a + m) (by omega) (by omega), Bool.and_true]
    exact hz_all_ext (fun k h1 h2 => h k h1 (by omega))
theorem hb_nc1 (st : hz_St) (hn : st.1 ≤ 10) {S : Nat} (hS : S < 2 ^ st.1) : hz_nc1 st S = (decide (hz_stand st S = 0) && hz_all (fun i => !S.testBit i || !decide (hz_stand st (hz_dif S (2 ^ i)) = 0)) st.1) := by
  unfold hz_nc1
  congr 1
  have := hz_all_ext (p := fun i => !S.testBit i || !decide (hz_stand st (hz_dif S (2 ^ i)) = 0)) (a := st.1) (m := 10 - st.1) (fun k h1 _ => by
    rw [Nat.testBit_lt_two_pow (Nat.lt_of_lt_of_le hS (Nat.pow_le_pow_right (by decide) h1))]
    rfl)
  rw [show st.1 + (10 - st.1) = 10 by omega] at this
  exact this