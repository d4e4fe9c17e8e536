theorem hj_m64 (A : Nat) {b : Nat} (hb : b < 6) : (A % 64).testBit b = A.testBit b := by
  have e : (A % 2 ^ 6).testBit b = (decide (b < 6) && A.testBit b) := Nat.testBit_mod_two_pow A 6 b
  rw [decide_eq_true hb, Bool.true_and] at e
  exact e
theorem hj_64 {l e b : Nat} (he : e < 64) : (64 * l + e).testBit b = if b < 6 then e.testBit b else l.testBit (b - 6) := by
  have c1 : 64 * l + e = 2 ^ 6 * l + e := rfl
  rw [c1, Nat.testBit_two_pow_mul_add l (by exact he)]
theorem hz_pinj : ∀ r, r < 6 → ∀ k, k < 6 → 2 ^ r = 2 ^ k → r = k := by decide
theorem hj_cn_comm (A B : Nat) : hj_cn A B = hj_cn B A := by
  apply Nat.eq_of_testBit_eq
  intro b
  by_cases hb : b < 6
  · rw [hj_cn_bit A B hb, hj_cn_bit B A hb]
    cases A.testBit (b + 6) <;> cases A.testBit b <;> cases B.testBit (b + 6) <;> cases B.testBit b <;> rfl
  · rw [hz_bit6 (hj_cn_lt A B) hb, hz_bit6 (hj_cn_lt B A) hb]
theorem hj_al_comm (A B : Nat) : hj_al A B = hj_al B A := by
  unfold hj_al
  rw [hj_cn_comm A B, Nat.or_comm A B]
theorem hj_pow : ∀ c, c < 64 → ((c ≠ 0 ∧ c &&& (c - 1) = 0) ↔ ∃ r, r < 6 ∧ c = 2 ^ r) := by decide +kernel
theorem hj_close_ok : ∀ f k L, hj_ok L → hj_ok (hj_close f k L)
  | 0, _, _, h => h
  | f + 1, k, L, h => by
    show hj_ok (if k < L.1 then hj_close f (k + 1) (hj_row L k k) else L)
    by_cases c : k < L.1
    · rw [if_pos c]
      exact hj_close_ok f (k + 1) _ (hj_row_ok h c k (Nat.le_refl _))
    · rw [if_neg c]
      exact h
theorem hz_joined_ok {st : hz_St} (hok : hz_okS st) (S : Nat) : hj_ok (hz_joined st S) := hj_close_ok _ _ _ (hj_init_ok hok S st.1 (Nat.le_refl _))
