-- ===== the reference: joining =====
def hp_put (L : hz_J) (l e : Nat) : hz_J := if l &&& e = 0 then hj_add L (64 * l + e) else L
def hp_jn (A B : Nat) (M : hz_J) : Nat → hz_J
  | 0 => M
  | r + 1 => if ((A / 64).testBit r && (B % 64).testBit r) = true then hp_put (hp_jn A B M r) (hz_dif (A / 64) (2 ^ r) ||| B / 64) (A % 64 ||| hz_dif (B % 64) (2 ^ r)) else hp_jn A B M r
theorem hj_m64 (A : Nat) {b : Nat} (hb : b < 6) : (A % 64).testBit b = A.testBit b := by
  have e : (A % 2 ^ 6).testBit b = (decide (b < 6) && A.testBit b) := Nat.testBit_mod_two_pow A 6 b
  rw [decide_eq_true hb, Bool.true_and] at e
  exact e
theorem hj_64 {l e b : Nat} (he : e < 64) : (64 * l + e).testBit b = if b < 6 then e.testBit b else l.testBit (b - 6) := by
  have c1 : 64 * l + e = 2 ^ 6 * l + e := rfl
  rw [c1, Nat.testBit_two_pow_mul_add l (by exact he)]
theorem hp_lt {A B r : Nat} (hA : A < 4096) (hB : B < 4096) : hz_dif (A / 64) (2 ^ r) ||| B / 64 < 64 ∧ A % 64 ||| hz_dif (B % 64) (2 ^ r) < 64 :=
  ⟨Nat.or_lt_two_pow (n := 6) (hz_dif_lt _ (n := 6) (by omega)) (by omega), Nat.or_lt_two_pow (n := 6) (by omega) (hz_dif_lt _ (n := 6) (by omega))⟩
theorem hp_step {A B r : Nat} (hA : hj_v A) (hB : hj_v B) (hr : r < 6) (h1 : A.testBit (r + 6) = true) (h2 : B.testBit r = true) : ((hz_dif (A / 64) (2 ^ r) ||| B / 64) &&& (A % 64 ||| hz_dif (B % 64) (2 ^ r)) = 0 ↔ hj_cn A B = 2 ^ r) ∧ (hj_cn A B = 2 ^ r → 64 * (hz_dif (A / 64) (2 ^ r) ||| B / 64) + (A % 64 ||| hz_dif (B % 64) (2 ^ r)) = hj_al A B) := by
  obtain ⟨l1, l2⟩ := hp_lt (r := r) hA.1 hB.1
  have c6 := hj_cn_lt A B
  have bl : ∀ b, b < 6 → (hz_dif (A / 64) (2 ^ r) ||| B / 64).testBit b = ((A.testBit (b + 6) && !decide (r = b)) || B.testBit (b + 6)) := fun b _ => by
    rw [Nat.testBit_or, hz_dif_bit, hj_d64, hj_d64, Nat.testBit_two_pow]
  have be : ∀ b, b < 6 → (A % 64 ||| hz_dif (B % 64) (2 ^ r)).testBit b = (A.testBit b || (B.testBit b && !decide (r = b))) := fun b hb => by
    rw [Nat.testBit_or, hz_dif_bit, hj_m64 _ hb, hj_m64 _ hb, Nat.testBit_two_pow]
  constructor
  · rw [hz_and0 _ l1]
    constructor
    · intro z
      apply Nat.eq_of_testBit_eq
      intro b
      rw [Nat.testBit_two_pow]
      by_cases hb : b < 6
      · have q := z b hb
        rw [bl b hb, be b hb] at q
        rw [hj_cn_bit A B hb]
        have a1 := hA.2 b hb
        have b1 := hB.2 b hb
        by_cases e : r = b
        · subst e
          rw [decide_eq_true rfl, h1, h2]
          rfl
        · rw [decide_eq_false e] at q ⊢
          revert q a1 b1
          cases A.testBit (b + 6) <;> cases A.testBit b <;> cases B.testBit (b + 6) <;> cases B.testBit b <;> decide
      · rw [hz_bit6 c6 hb, decide_eq_false (by omega)]
    · intro z b hb
      have q := hj_cn_bit A B hb
      rw [z, Nat.testBit_two_pow] at q
      rw [bl b hb, be b hb]
      have a1 := hA.2 b hb
      have b1 := hB.2 b hb
      by_cases e : r = b
      · subst e
        rw [h1] at a1
        rw [h2] at b1
        rw [decide_eq_true rfl]
        revert a1 b1
        cases A.testBit r <;> cases B.testBit (r + 6) <;> simp
      · rw [decide_eq_false e] at q ⊢
        revert q a1 b1
        cases A.testBit (b + 6) <;> cases A.testBit b <;> cases B.testBit (b + 6) <;> cases B.testBit b <;> decide
  · intro z
    have m1 : ∀ b, b < 6 → (2 ^ r * 64).testBit b = false := fun b hb => by
      have e : (2 ^ r * 2 ^ 6).testBit b = _ := Nat.testBit_mul_two_pow ..
      rw [show (64 : Nat) = 2 ^ 6 from rfl, e, decide_eq_false (by omega), Bool.false_and]
    have m2 : ∀ b, (2 ^ r * 64).testBit (b + 6) = decide (r = b) := fun b => by
      have e : (2 ^ r * 2 ^ 6).testBit (b + 6) = _ := Nat.testBit_mul_two_pow ..
      rw [show (64 : Nat) = 2 ^ 6 from rfl, e, decide_eq_true (by omega), Bool.true_and, show b + 6 - 6 = b by omega, Nat.testBit_two_pow]
    have p6 : 2 ^ r < 64 := hz_pw64 hr
    apply Nat.eq_of_testBit_eq
    intro b
    rw [hj_64 l2]
    unfold hj_al
    rw [z]
    by_cases hb : b < 6
    · rw [if_pos hb, be b hb, hz_dif_bit, Nat.testBit_or, Nat.testBit_or, m1 b hb, Nat.testBit_two_pow]
      have a1 := hA.2 b hb
      by_cases e : r = b
      · subst e
        rw [h1] at a1
        rw [decide_eq_true rfl]
        revert a1
        cases A.testBit r <;> cases B.testBit r <;> decide
      · rw [decide_eq_false e]
        cases A.testBit b <;> cases B.testBit b <;> rfl
    · obtain ⟨b', rfl⟩ : ∃ b', b = b' + 6 := ⟨b - 6, by omega⟩
      generalize hz_dif (A / 64) (2 ^ r) ||| B / 64 = X at *
      rw [if_neg hb, show b' + 6 - 6 = b' by omega, hz_dif_bit, Nat.testBit_or, Nat.testBit_or, m2 b', hz_bit6 p6 (by omega)]
      by_cases hb' : b' < 6
      · rw [bl b' hb']
        have b1 := hB.2 b' hb'
        by_cases e : r = b'
        · subst e
          rw [h2] at b1
          rw [decide_eq_true rfl]
          revert b1
          cases A.testBit (r + 6) <;> cases B.testBit (r + 6) <;> decide
        · rw [decide_eq_false e]
          cases A.testBit (b' + 6) <;> cases B.testBit (b' + 6) <;> rfl
      · rw [hz_bit6 l1 hb', Nat.testBit_lt_two_pow (Nat.lt_of_lt_of_le hA.1 (show 4096 ≤ 2 ^ (b' + 6) from Nat.pow_le_pow_right (show 0 < 2 by decide) (show 12 ≤ b' + 6 by omega))), Nat.testBit_lt_two_pow (Nat.lt_of_lt_of_le hB.1 (show 4096 ≤ 2 ^ (b' + 6) from Nat.pow_le_pow_right (show 0 < 2 by decide) (show 12 ≤ b' + 6 by omega)))]
        rfl
theorem hz_pinj : ∀ r, r < 6 → ∀ k, k < 6 → 2 ^ r = 2 ^ k → r = k := by decide
def hp_cc (A B r : Nat) : Bool := (A.testBit (r + 6) && B.testBit r) && decide (hj_cn A B = 2 ^ r)
theorem hp_jn_is {A B : Nat} (hA : hj_v A) (hB : hj_v B) (M : hz_J) : ∀ m, m ≤ 6 → hp_jn A B M m = if hz_any (hp_cc A B) m = true then hj_add M (hj_al A B) else M
  | 0, _ => rfl
  | m + 1, hm => by
    have ih := hp_jn_is hA hB M m (by omega)
    have s : hp_jn A B M (m + 1) = if ((A / 64).testBit m && (B % 64).testBit m) = true then hp_put (hp_jn A B M m) (hz_dif (A / 64) (2 ^ m) ||| B / 64) (A % 64 ||| hz_dif (B % 64) (2 ^ m)) else hp_jn A B M m := rfl
    have s2 : hz_any (hp_cc A B) (m + 1) = (hz_any (hp_cc A B) m || hp_cc A B m) := rfl
    rw [s, s2, hj_d64, hj_m64 _ (by omega)]
    by_cases c : (A.testBit (m + 6) && B.testBit m) = true
    · have c' := c
      rw [Bool.and_eq_true] at c'
      obtain ⟨q1, q2⟩ := hp_step hA hB (by omega) c'.1 c'.2
      rw [if_pos c]
      unfold hp_put
      by_cases z : hj_cn A B = 2 ^ m
      · rw [if_pos (q1.mpr z), q2 z, ih]
        have e1 : hz_any (hp_cc A B) m = false := hz_anyf.mpr (fun k hk => by
          unfold hp_cc
          refine hz_andR (decide_eq_false (fun y => ?_))
          rw [z] at y
          have := hz_pinj m (by omega) k (by omega) y
          omega)
        have e2 : hp_cc A B m = true := by
          unfold hp_cc
          rw [c, decide_eq_true z]
          rfl
        rw [e1, e2]
        rfl
      · rw [if_neg (fun y => z (q1.mp y)), ih]
        have e2 : hp_cc A B m = false := by
          unfold hp_cc
          rw [decide_eq_false z]
          exact Bool.and_false _
        rw [e2, Bool.or_false]
    · rw [if_neg c, ih]
      have e2 : hp_cc A B m = false := by
        unfold hp_cc
        rw [ts_nt c]
        rfl
      rw [e2, Bool.or_false]
theorem hj_cn_comm (A B : Nat) : hj_cn A B = hj_cn B A := by
  apply Nat.eq_of_testBit_eq
  intro b
  by_cases hb : b < 6
  · rw [hj_cn_bit A B hb, hj_cn_bit B A hb]
    cases A.testBit (b + 6) <;> cases A.testBit b <;> cases B.testBit (b + 6) <;> cases B.testBit b <;> rfl
  · rw [hz_bit6 (hj_cn_lt A B) hb, hz_bit6 (hj_cn_lt B A) hb]
theorem hj_al_comm (A B : Nat) : hj_al A B = hj_al B A := by
  unfold hj_al
  rw [hj_cn_comm A B, Nat.or_comm A B]
theorem hj_pow : ∀ c, c < 64 → ((c ≠ 0 ∧ c &&& (c - 1) = 0) ↔ ∃ r, r < 6 ∧ c = 2 ^ r) := by decide +kernel
theorem hp_pair {A B : Nat} (hA : hj_v A) (hB : hj_v B) (M : hz_J) : hp_jn B A (hp_jn A B M 6) 6 = hj_jn A B M := by
  rw [hp_jn_is hA hB M 6 (Nat.le_refl _), hp_jn_is hB hA _ 6 (Nat.le_refl _), hj_al_comm B A]
  unfold hj_jn
  by_cases z : hj_cn A B ≠ 0 ∧ hj_cn A B &&& (hj_cn A B - 1) = 0
  · rw [if_pos z]
    obtain ⟨r, hr, e⟩ := (hj_pow _ (hj_cn_lt A B)).mp z
    have e' : hj_cn B A = 2 ^ r := (hj_cn_comm B A).trans e
    have q := hj_cn_bit A B hr
    rw [e, Nat.testBit_two_pow, decide_eq_true rfl] at q
    cases c : (A.testBit (r + 6) && B.testBit r) with
    | true =>
      have a1 : hz_any (hp_cc A B) 6 = true := hz_any_iff.mpr ⟨r, hr, by unfold hp_cc; rw [c, decide_eq_true e]; rfl⟩
      have a2 : hz_any (hp_cc B A) 6 = false := hz_anyf.mpr (fun k hk => ts_nt (fun y => by
        unfold hp_cc at y
        rw [Bool.and_eq_true, decide_eq_true_iff, Bool.and_eq_true] at y
        have ek := hz_pinj r hr k hk (e'.symm.trans y.2)
        have ek : r = k := ek
        subst ek
        have v := hA.2 r hr
        rw [y.1.2] at v
        rw [Bool.and_eq_true] at c
        rw [c.1] at v
        cases v))
      rw [a1, a2]
      rfl
    | false =>
      rw [c, Bool.false_or] at q
      have a1 : hz_any (hp_cc A B) 6 = false := hz_anyf.mpr (fun k hk => ts_nt (fun y => by
        unfold hp_cc at y
        rw [Bool.and_eq_true, decide_eq_true_iff] at y
        have ek := hz_pinj r hr k hk (e.symm.trans y.2)
        have ek : r = k := ek
        subst ek
        rw [c] at y
        cases y.1))
      have a2 : hz_any (hp_cc B A) 6 = true := hz_any_iff.mpr ⟨r, hr, by
        unfold hp_cc
        rw [decide_eq_true e', Bool.and_comm (B.testBit (r + 6)), ← q]
        rfl⟩
      rw [a1, a2]
      rfl
  · rw [if_neg z]
    have no : ∀ k, k < 6 → ¬ hj_cn A B = 2 ^ k := fun k hk y => z ((hj_pow _ (hj_cn_lt A B)).mpr ⟨k, hk, y⟩)
    have a1 : hz_any (hp_cc A B) 6 = false := hz_anyf.mpr (fun k hk => by
      unfold hp_cc
      rw [decide_eq_false (no k hk)]
      exact Bool.and_false _)
    have a2 : hz_any (hp_cc B A) 6 = false := hz_anyf.mpr (fun k hk => by
      unfold hp_cc
      rw [decide_eq_false (fun y => no k hk ((hj_cn_comm A B).trans y))]
      exact Bool.and_false _)
    rw [a1, a2]
    rfl
theorem hj_close_ok : ∀ f k L, hj_ok L → hj_ok (hj_close f k L)
  | 0, _, _, h => h
  | f + 1, k, L, h => by
    show hj_ok (if k < L.1 then hj_close f (k + 1) (hj_row L k k) else L)
    by_cases c : k < L.1
    · rw [if_pos c]
      exact hj_close_ok f (k + 1) _ (hj_row_ok h c k (Nat.le_refl _))
    · rw [if_neg c]
      exact h
theorem hz_joined_ok {st : hz_St} (hok : hz_okS st) (S : Nat) : hj_ok (hz_joined st S) := hj_close_ok _ _ _ (hj_init_ok hok S st.1 (Nat.le_refl _))
/-- the reference's rows of made rules -/
def hw_mj (h : hq_H) (L : hz_J) : hq_H := (fun k i s => if k = 13 ∧ i = 0 ∧ s = 15 then nI L.1 else if k = 19 ∧ i = 0 ∧ s < L.1 then nI (L.2 s) else if k = 18 ∧ i = 0 ∧ s < 4096 then hz_b (hj_in L s) else h.1 k i s, h.2)
theorem hw_mj_at (h : hq_H) (L : hz_J) (k i s : Nat) : (hw_mj h L).1 k i s = if k = 13 ∧ i = 0 ∧ s = 15 then nI L.1 else if k = 19 ∧ i = 0 ∧ s < L.1 then nI (L.2 s) else if k = 18 ∧ i = 0 ∧ s < 4096 then hz_b (hj_in L s) else h.1 k i s := rfl
theorem hw_mj_n (h : hq_H) (L : hz_J) : (hw_mj h L).1 13 0 15 = nI L.1 := by rw [hw_mj_at, if_pos ⟨rfl, rfl, rfl⟩]
theorem hw_mj_m (h : hq_H) (L : hz_J) {i : Nat} (hi : i < L.1) : (hw_mj h L).1 19 0 i = nI (L.2 i) := by rw [hw_mj_at, if_neg (fun z => absurd z.1 (by decide)), if_pos ⟨rfl, rfl, hi⟩]
theorem hw_mj_s (h : hq_H) (L : hz_J) {c : Nat} (hc : c < 4096) : (hw_mj h L).1 18 0 c = hz_b (hj_in L c) := by rw [hw_mj_at, if_neg (fun z => absurd z.1 (by decide)), if_neg (fun z => absurd z.1 (by decide)), if_pos ⟨rfl, rfl, hc⟩]
theorem hw_mj_f (h : hq_H) (L : hz_J) {s : Nat} (hs : s ≠ 15) : (hw_mj h L).1 13 0 s = h.1 13 0 s := by rw [hw_mj_at, if_neg (fun z => hs z.2.2), if_neg (fun z => absurd z.1 (by decide)), if_neg (fun z => absurd z.1 (by decide))]
theorem hw_mj_k (h : hq_H) (L : hz_J) {k : Nat} (h1 : k ≠ 13) (h2 : k ≠ 18) (h3 : k ≠ 19) (i : Nat) : (hw_mj h L).1 k i = h.1 k i := by
  funext s
  rw [hw_mj_at, if_neg (fun z => h1 z.1), if_neg (fun z => h3 z.1), if_neg (fun z => h2 z.1)]
theorem hw_mj_J (h : hq_H) {L : hz_J} (ok : hj_ok L) : hm_J (hw_mj h L) L := ⟨hw_mj_n h L, fun _ hi => hw_mj_m h L hi, fun _ hc => hw_mj_s h L hc, ok⟩
theorem hw_Mo_mj (h : hq_H) (L : hz_J) : hw_stay hw_Mo h (hw_mj h L) := fun k i hn => ⟨hw_mj_k h L (fun z => hn ⟨by omega, by omega⟩) (fun z => hn ⟨by omega, by omega⟩) (fun z => hn ⟨by omega, by omega⟩) i, rfl⟩
theorem hw_mj_Q {h : hq_H} {st : hz_St} (L : hz_J) (Q : hm_Q h st) : hm_Q (hw_mj h L) st := ⟨by rw [hw_mj_k h L (by decide) (by decide) (by decide)]; exact Q.1, Q.2⟩
theorem hm_RM_mj {h : hq_H} {w : hz_W} {L : hz_J} (R : hm_RM h w) (ok : hj_ok L) : hm_RM (hw_mj h L) w := by
  obtain ⟨a, s, ⟨v1, v2, v3⟩, b, _⟩ := R
  have sl : ∀ q, hm_slot (hw_mj h L) q = hm_slot h q := fun q => by
    unfold hm_slot
    rw [hw_mj_k h L (by decide) (by decide) (by decide)]
  refine ⟨hw_mj_Q L a, ?_, ⟨v1, (hw_mj_f h L (by decide)).trans v2, fun i hi => by rw [sl]; exact v3 i hi⟩, ⟨(hw_mj_f h L (by decide)).trans b.1, fun i hi => by rw [hw_mj_k h L (by decide) (by decide) (by decide)]; exact b.2 i hi⟩, L, hw_mj_J h ok⟩
  cases hw : w.2.1 with
  | none =>
    rw [hw] at s
    exact (hw_mj_f h L (by decide)).trans s
  | some x =>
    rw [hw] at s
    exact ⟨(hw_mj_f h L (by decide)).trans s.1, by rw [sl]; exact s.2⟩
theorem hw_mj_add (h : hq_H) {L : hz_J} {c : Nat} (hc : c < 4096) (hin : hj_in L c = false) : hq_si (hq_si (hq_si (hw_mj h L) 18 0 c 1) 19 0 L.1 (nI c)) 13 0 15 (nI (L.1 + 1)) = hw_mj h (hj_add L c) := by
  refine hq_ext (fun k i s => ?_) (fun _ _ _ => rfl)
  rw [hq_si_at, hq_si_at, hq_si_at, hw_mj_at, hw_mj_at, hj_add_in]
  rw [show (hj_add L c).1 = L.1 + 1 from by rw [hj_add_n hin], show (hj_add L c).2 s = if s = L.1 then c else L.2 s from by rw [hj_add_n hin]]
  by_cases c13 : k = 13 ∧ i = 0 ∧ s = 15
  · rw [if_pos ⟨c13.1, c13.2.2, c13.2.1⟩, if_pos c13]
  · rw [if_neg (fun z => c13 ⟨z.1, z.2.2, z.2.1⟩), if_neg c13, if_neg c13]
    by_cases c19 : k = 19 ∧ i = 0
    · by_cases e : s = L.1
      · rw [if_pos ⟨c19.1, e, c19.2⟩, if_pos ⟨c19.1, c19.2, by omega⟩, if_pos e]
      · rw [if_neg (fun z => e z.2.1), if_neg (fun z => by have := z.1; omega)]
        by_cases l : s < L.1
        · rw [if_pos ⟨c19.1, c19.2, l⟩, if_pos ⟨c19.1, c19.2, by omega⟩, if_neg e]
        · rw [if_neg (fun z => l z.2.2), if_neg (fun z => by have := z.1; omega), if_neg (fun z => by have := z.2.2; omega), if_neg (fun z => by have := z.1; omega)]
    · rw [if_neg (fun z => c19 ⟨z.1, z.2.2⟩), if_neg (fun z : k = 19 ∧ i = 0 ∧ s < L.1 + 1 => c19 ⟨z.1, z.2.1⟩)]
      by_cases c18 : k = 18 ∧ i = 0
      · by_cases e : s = c
        · rw [if_pos ⟨c18.1, e, c18.2⟩, if_pos ⟨c18.1, c18.2, by omega⟩, decide_eq_true e.symm, Bool.or_true]
          rfl
        · rw [if_neg (fun z => e z.2.1), if_neg (fun z => by have := z.1; omega), decide_eq_false (fun z => e z.symm), Bool.or_false]
      · rw [if_neg (fun z => c18 ⟨z.1, z.2.2⟩), if_neg (fun z => c19 ⟨z.1, z.2.1⟩), if_neg (fun z => c18 ⟨z.1, z.2.1⟩), if_neg (fun z => c18 ⟨z.1, z.2.1⟩)]
theorem m_puts (d : Nat) (h : hq_H) {L : hz_J} (hok : hj_ok L) {l e : Nat} (hl : l < 64) (he : e < 64) {x y : Int32} (hx : x = nI l) (hy : y = nI e) : hq_Met (d + 1) MX7_puts [.inr (13, 0), hz_i x, hz_i y] (hw_mj h L) hz_v (hw_mj h (hp_put L l e)) := by
  subst hx
  subst hy
  have mx := hj_max hok
  have ec : (64 : Int32) * nI l + nI e = nI (64 * l + e) := by
    show nI 64 * nI l + nI e = _
    rw [pk_mul, nI_add]
  refine inX7_puts d 0 (nI l) (nI e) (hw_mj h L) _ _ (fun _ => trivial) (fun J b0 => b0 _ _ _ ?_)
  have ea := hz_andI (a := l) e (by omega)
  unfold hp_put
  refine hq_nc (fun c => ?_) (fun c => ?_)
  · rw [if_neg (fun z => c (ea.mpr z))]
    exact ⟨rfl, rfl⟩
  · have le0 := ea.mp c
    rw [if_pos le0]
    refine ⟨64 * l + e, by omega, ec, ?_⟩
    have es : (hw_mj h L).1 18 0 (64 * l + e) = hz_b (hj_in L (64 * l + e)) := hw_mj_s h L (by omega)
    cases i : hj_in L (64 * l + e) with
    | true =>
      rw [i] at es
      rw [hj_add_y i]
      exact hq_nt (fun z => absurd (es.symm.trans z) (by decide)) ⟨rfl, rfl⟩
    | false =>
      rw [i] at es
      have rm := hj_room hok (hj_code_v hl he le0) i
      refine hq_nf es ?_
      refine ⟨64 * l + e, by omega, ec, ?_⟩
      refine ⟨L.1, rm, ?_, ?_⟩
      · show (hq_si (hw_mj h L) 18 0 (64 * l + e) (vp_nar .boolean 1)).1 13 0 15 = _
        rw [hq_si_at, if_neg (fun z => absurd z.1 (by decide))]
        exact hw_mj_n h L
      · refine ⟨rfl, ?_⟩
        show hq_si (hq_si (hq_si (hw_mj h L) 18 0 (64 * l + e) 1) 19 0 L.1 (64 * nI l + nI e)) 13 0 15 ((hq_si (hq_si (hw_mj h L) 18 0 (64 * l + e) 1) 19 0 L.1 (64 * nI l + nI e)).1 13 0 15 + 1) = _
        rw [ec, ← hw_mj_add h (by omega) i, hq_si_at, if_neg (fun z => absurd z.1 (by decide)), hq_si_at, if_neg (fun z => absurd z.1 (by decide)), hw_mj_n, ← nI_succ]
theorem hp_put_ok {L : hz_J} (h : hj_ok L) {l e : Nat} (hl : l < 64) (he : e < 64) : hj_ok (hp_put L l e) := by
  unfold hp_put
  by_cases c : l &&& e = 0
  · rw [if_pos c]
    exact hj_add_ok h (hj_code_v hl he c)
  · rw [if_neg c]
    exact h
theorem hp_jn_ok {A B : Nat} (hA : A < 4096) (hB : B < 4096) {M : hz_J} (h : hj_ok M) : ∀ m, hj_ok (hp_jn A B M m)
  | 0 => h
  | m + 1 => by
    have ih := hp_jn_ok hA hB h m
    obtain ⟨l1, l2⟩ := hp_lt (r := m) hA hB
    show hj_ok (if ((A / 64).testBit m && (B % 64).testBit m) = true then hp_put (hp_jn A B M m) (hz_dif (A / 64) (2 ^ m) ||| B / 64) (A % 64 ||| hz_dif (B % 64) (2 ^ m)) else hp_jn A B M m)
    split
    · exact hp_put_ok ih l1 l2
    · exact ih
theorem m_joins (d : Nat) (h : hq_H) {M : hz_J} (hok : hj_ok M) {A B : Nat} (hA : A < 4096) (hB : B < 4096) {x y : Int32} (hx : x = nI A) (hy : y = nI B) : hq_Met (d + 2) MX7_joins [.inr (13, 0), hz_i x, hz_i y] (hw_mj h M) hz_v (hw_mj h (hp_jn A B M 6)) := by
  subst hx
  subst hy
  have dA : nI A / 64 = nI (A / 64) := pk_div (a := A) (d := 64) (by omega) (by decide) (by decide)
  have dB : nI B / 64 = nI (B / 64) := pk_div (a := B) (d := 64) (by omega) (by decide) (by decide)
  have rA : nI A - nI A / 64 * 64 = nI (A % 64) := pk_rem (a := A) (d := 64) (by omega) (by decide) (by decide)
  have rB : nI B - nI B / 64 * 64 = nI (B % 64) := pk_rem (a := B) (d := 64) (by omega) (by decide) (by decide)
  have z64 : ¬ (64 : Int32) = 0 := by decide
  refine inX7_joins (d + 1) 0 (nI A) (nI B) (hw_mj h M) _ _ (fun _ => trivial) (fun J b0 b2 => b0 _ _ _ ?_)
  refine hq_up (P := fun r => ∀ v4, J 2 [some (.inr (13, 0)), some (hz_i (nI A)), some (hz_i (nI B)), some (hz_i (nI r)), v4] [] (hw_mj h (hp_jn A B M r))) 6 (fun v4 => b2 _ _ _ (hq_bt (hz_le (a := 6) (b := 6) rfl rfl (Nat.le_refl _) (by decide)) ⟨rfl, rfl⟩)) (fun r hr ih v4 => b2 _ _ _ ?_) 0 (Nat.zero_le _) none
  refine hq_bf (hz_nle (a := 6) (b := r) rfl rfl hr (by decide)) ?_
  have s : hp_jn A B M (r + 1) = if ((A / 64).testBit r && (B % 64).testBit r) = true then hp_put (hp_jn A B M r) (hz_dif (A / 64) (2 ^ r) ||| B / 64) (A % 64 ||| hz_dif (B % 64) (2 ^ r)) else hp_jn A B M r := rfl
  rw [s, nI_succ r] at ih
  have okr := hp_jn_ok hA hB hok r
  refine ⟨z64, ?_⟩
  refine ⟨_, _, m_isIn d _ dA rfl (by omega) (by omega), ?_⟩
  cases t1 : (A / 64).testBit r with
  | false =>
    rw [t1, Bool.false_and] at ih
    exact hq_bt rfl (ih _)
  | true =>
    rw [t1, Bool.true_and] at ih
    refine hq_bf hz_one0 ⟨z64, ?_⟩
    refine ⟨_, _, m_isIn d _ rB rfl (by omega) (by omega), ?_⟩
    cases t2 : (B % 64).testBit r with
    | false =>
      rw [t2] at ih
      exact hq_bt rfl (ih _)
    | true =>
      rw [t2, if_pos rfl] at ih
      refine hq_bf hz_one0 ⟨z64, z64, z64, z64, ?_⟩
      obtain ⟨l1, l2⟩ := hp_lt (r := r) hA hB
      have ew := hz_pw (k := r) (by omega)
      refine ⟨_, m_puts d h okr l1 l2 ?_ ?_, ih _⟩
      · rw [dA, dB, ew, hz_difN, hz_orN]
      · rw [rA, rB, ew, hz_difN, hz_orN]
theorem hp_lt_row {L : hz_J} (h : hj_ok L) {i : Nat} (hi : i < L.1) : L.2 i < 4096 := (h.1 i hi).1
def hw_cl (h : hq_H) (L : hz_J) (m : Nat) : hq_H := (fun k i s => if k = 18 ∧ i = 0 ∧ hz_any (fun q => decide (L.2 q = s)) m = true then 0 else h.1 k i s, h.2)
theorem hw_cl_at (h : hq_H) (L : hz_J) (m k i s : Nat) : (hw_cl h L m).1 k i s = if k = 18 ∧ i = 0 ∧ hz_any (fun q => decide (L.2 q = s)) m = true then 0 else h.1 k i s := rfl
theorem hw_cl_0 (h : hq_H) (L : hz_J) : hw_cl h L 0 = h := hq_ext (fun k i s => if_neg (fun z => Bool.false_ne_true z.2.2)) (fun _ _ _ => rfl)
theorem hw_cl_s (h : hq_H) (L : hz_J) (m : Nat) : hq_si (hw_cl h L m) 18 0 (L.2 m) 0 = hw_cl h L (m + 1) := by
  refine hq_ext (fun k i s => ?_) (fun _ _ _ => rfl)
  rw [hq_si_at, hw_cl_at, hw_cl_at]
  have e : hz_any (fun q => decide (L.2 q = s)) (m + 1) = (hz_any (fun q => decide (L.2 q = s)) m || decide (L.2 m = s)) := rfl
  rw [e]
  by_cases c : k = 18 ∧ i = 0
  · by_cases c2 : s = L.2 m
    · rw [if_pos ⟨c.1, c2, c.2⟩, if_pos ⟨c.1, c.2, by rw [decide_eq_true c2.symm, Bool.or_true]⟩]
    · rw [if_neg (fun z => c2 z.2.1), decide_eq_false (fun z => c2 z.symm), Bool.or_false]
  · rw [if_neg (fun z => c ⟨z.1, z.2.2⟩), if_neg (fun z => c ⟨z.1, z.2.1⟩), if_neg (fun z => c ⟨z.1, z.2.1⟩)]
theorem hw_cl_end {h : hq_H} {L : hz_J} (J : hm_J h L) : hq_si (hw_cl h L L.1) 13 0 15 0 = hw_mj h (0, fun _ => 0) := by
  refine hq_ext (fun k i s => ?_) (fun _ _ _ => rfl)
  rw [hq_si_at, hw_cl_at, hw_mj_at]
  by_cases c13 : k = 13 ∧ i = 0 ∧ s = 15
  · rw [if_pos ⟨c13.1, c13.2.2, c13.2.1⟩, if_pos c13]
    rfl
  · rw [if_neg (fun z => c13 ⟨z.1, z.2.2, z.2.1⟩), if_neg c13, if_neg (fun z : k = 19 ∧ i = 0 ∧ s < 0 => Nat.not_lt_zero _ z.2.2)]
    by_cases c18 : k = 18 ∧ i = 0 ∧ s < 4096
    · rw [if_pos c18]
      have e : hj_in (0, fun _ => 0) s = false := rfl
      rw [e]
      by_cases a : hz_any (fun q => decide (L.2 q = s)) L.1 = true
      · rw [if_pos ⟨c18.1, c18.2.1, a⟩]
        rfl
      · rw [if_neg (fun z => a z.2.2), c18.1, c18.2.1, J.2.2.1 s c18.2.2]
        show hz_b (hz_any (fun q => decide (L.2 q = s)) L.1) = _
        rw [ts_nt a]
    · rw [if_neg c18]
      by_cases a : k = 18 ∧ i = 0 ∧ hz_any (fun q => decide (L.2 q = s)) L.1 = true
      · obtain ⟨q, hq, y⟩ := hz_any_iff.mp a.2.2
        have y := of_decide_eq_true y
        have := hp_lt_row J.2.2.2 hq
        exact absurd ⟨a.1, a.2.1, by omega⟩ c18
      · rw [if_neg a]
theorem m_closes (d : Nat) (h : hq_H) (st : hz_St) (H : hm_S (h.1 14 0) st) (hok : hz_okS st) {L0 : hz_J} (J0 : hm_J h L0) {x : Int32} {S : Nat} (hx : x = nI S) (hS : S < 2 ^ 31) : hq_Met (d + 3) MX7_closes [.inr (13, 0), hz_i x] h (hz_o (nI (hz_joined st S).1)) (hw_mj h (hz_joined st S)) := by
  subst hx
  have n10 := hok.1
  have m0 := hj_max J0.2.2.2
  have HL : ∀ L, hm_S ((hw_mj h L).1 14 0) st := fun L => by
    rw [hw_mj_k h L (by decide) (by decide) (by decide)]
    exact H
  refine inX7_closes (d + 2) 0 (nI S) h _ _ (fun _ => trivial) (fun J b0 b2 b35 b85 b95 => b0 _ _ _ ?_)
  have close : ∀ f k L, f + k = 730 → hj_ok L → hj_close f k L = hz_joined st S → ∀ v3, J 85 [some (.inr (13, 0)), some (hz_i (nI S)), some (hz_i (nI k)), v3] [] (hw_mj h L) := by
    intro f
    induction f with
    | zero =>
      intro k L hk hL e v3
      have mx := hj_max hL
      have e : L = hz_joined st S := e
      refine b85 _ _ _ (hq_bt (hz_le (a := L.1) (b := k) (hw_mj_n h L) rfl (by omega) (by omega)) ?_)
      rw [← e]
      exact ⟨hz_ri (hw_mj_n h L).symm, rfl⟩
    | succ f ih =>
      intro k L hk hL e v3
      have mx := hj_max hL
      have e : (if k < L.1 then hj_close f (k + 1) (hj_row L k k) else L) = hz_joined st S := e
      by_cases c : k < L.1
      · rw [if_pos c] at e
        refine b85 _ _ _ (hq_bf (hz_nle (a := L.1) (b := k) (hw_mj_n h L) rfl c (by omega)) ?_)
        refine hq_up (P := fun j => J 95 [some (.inr (13, 0)), some (hz_i (nI S)), some (hz_i (nI k)), some (hz_i (nI j))] [] (hw_mj h (hj_row L k j))) k (b95 _ _ _ (hq_bt (hz_le (a := k) (b := k) rfl rfl (Nat.le_refl _) (by omega)) ?_)) (fun j hj ih2 => b95 _ _ _ ?_) 0 (Nat.zero_le _)
        · have q := ih (k + 1) (hj_row L k k) (by omega) (hj_row_ok hL c k (Nat.le_refl _)) e (some (hz_i (nI k)))
          rw [nI_succ k] at q
          exact q
        · refine hq_bf (hz_nle (a := k) (b := j) rfl rfl hj (by omega)) ?_
          have okj := hj_row_ok hL c j (by omega)
          have pre := hj_pre_row L k j
          have mj := hj_max okj
          have vA := hL.1 k c
          have vB := hL.1 j (by omega)
          have sj : hj_row L k (j + 1) = hj_jn (L.2 k) (L.2 j) (hj_row L k j) := rfl
          rw [sj, ← hp_pair vA vB, nI_succ j] at ih2
          have gA : ∀ M, hj_pre L M → (hw_mj h M).1 19 0 k = nI (L.2 k) := fun M p => (hw_mj_m h M (Nat.lt_of_lt_of_le c p.1)).trans (congrArg nI (p.2 k c))
          have gB : ∀ M, hj_pre L M → (hw_mj h M).1 19 0 j = nI (L.2 j) := fun M p => (hw_mj_m h M (Nat.lt_of_lt_of_le (by omega) p.1)).trans (congrArg nI (p.2 j (by omega)))
          have pre2 : hj_pre L (hp_jn (L.2 k) (L.2 j) (hj_row L k j) 6) := by
            refine pre.trans ?_
            rw [hp_jn_is vA vB _ 6 (Nat.le_refl _)]
            split
            · exact hj_pre_add _ _
            · exact ⟨Nat.le_refl _, fun _ _ => rfl⟩
          refine ⟨k, by omega, rfl, j, by omega, rfl, ?_⟩
          refine ⟨_, m_joins d h okj vA.1 vB.1 (gA _ pre) (gB _ pre), ?_⟩
          refine ⟨j, by omega, rfl, k, by omega, rfl, ?_⟩
          exact ⟨_, m_joins d h (hp_jn_ok vA.1 vB.1 okj 6) vB.1 vA.1 (gB _ pre2) (gA _ pre2), ih2⟩
      · rw [if_neg c] at e
        refine b85 _ _ _ (hq_bt (hz_le (a := L.1) (b := k) (hw_mj_n h L) rfl (by omega) (by omega)) ?_)
        rw [← e]
        exact ⟨hz_ri (hw_mj_n h L).symm, rfl⟩
  have init : J 35 [some (.inr (13, 0)), some (hz_i (nI S)), some (hz_i 0), none] [] (hw_mj h (0, fun _ => 0)) := by
    refine hq_up (P := fun k => J 35 [some (.inr (13, 0)), some (hz_i (nI S)), some (hz_i (nI k)), none] [] (hw_mj h (hj_init st S k))) st.1 (b35 _ _ _ ?_) (fun k hk ih => b35 _ _ _ ?_) 0 (Nat.zero_le _)
    · refine ⟨0, by decide, rfl, ?_⟩
      refine hq_bt (hz_le (HL _).1 rfl (Nat.le_refl _) (by omega)) ?_
      refine close 730 0 (hj_init st S st.1) rfl (hj_init_ok hok S st.1 (Nat.le_refl _)) ?_ none
      show (if 0 < (hj_init st S st.1).1 then hj_close 729 (0 + 1) (hj_row (hj_init st S st.1) 0 0) else hj_init st S st.1) = hj_close 729 1 (hj_init st S st.1)
      by_cases c : 0 < (hj_init st S st.1).1
      · rw [if_pos c]
        rfl
      · rw [if_neg c]
        show _ = (if 1 < (hj_init st S st.1).1 then hj_close 728 (1 + 1) (hj_row (hj_init st S st.1) 1 1) else hj_init st S st.1)
        rw [if_neg (by omega)]
    · refine ⟨0, by decide, rfl, ?_⟩
      refine hq_bf (hz_nle (HL _).1 rfl hk (by omega)) ?_
      have s : hj_init st S (k + 1) = if S.testBit k = true then hj_add (hj_init st S k) (hj_code st k) else hj_init st S k := rfl
      rw [s, nI_succ k] at ih
      refine ⟨_, _, m_isIn (d + 1) _ rfl rfl hS (show k < 31 by omega), ?_⟩
      cases t : S.testBit k with
      | false =>
        rw [if_neg (by rw [t]; decide)] at ih
        exact hq_bt rfl ih
      | true =>
        rw [if_pos t] at ih
        refine hq_bf hz_one0 ?_
        obtain ⟨⟨l, e, hl, he, hL, hE, hle, -⟩, -, -⟩ := hok.2.2 k hk
        have c : hj_code st k = 64 * l + e := by
          unfold hj_code
          rw [hL, hE, nI_clamp (by omega), nI_clamp (by omega)]
        rw [c] at ih
        have e0 := ((HL (hj_init st S k)).2.2.2.2.2 k hk 0 (by decide)).trans hL
        have e1 := ((HL (hj_init st S k)).2.2.2.2.2 k hk 1 (by decide)).trans hE
        refine ⟨_, _, m_at (d + 1) k _, ?_⟩
        refine ⟨5 + 6 * k, by omega, rfl, ?_⟩
        refine ⟨_, _, m_at (d + 1) k _, ?_⟩
        refine ⟨5 + 6 * k + 1, by omega, nI_add (5 + 6 * k) 1, ?_⟩
        have mp := m_puts (d + 1) h (hj_init_ok hok S k (by omega)) hl he e0 e1
        rw [show hp_put (hj_init st S k) l e = hj_add (hj_init st S k) (64 * l + e) from if_pos hle] at mp
        exact ⟨_, mp, ih⟩
  have key := hq_up (P := fun m => J 2 [some (.inr (13, 0)), some (hz_i (nI S)), some (hz_i (nI m)), none] [] (hw_cl h L0 m)) L0.1 (b2 _ _ _ ?_) (fun m hm ih => b2 _ _ _ ?_) 0 (Nat.zero_le _)
  · rw [hw_cl_0] at key
    exact key
  · have e15 : (hw_cl h L0 L0.1).1 13 0 15 = nI L0.1 := by
      rw [hw_cl_at, if_neg (fun z => absurd z.1 (by decide))]
      exact J0.1
    refine hq_bt (hz_le (a := L0.1) (b := L0.1) e15 rfl (Nat.le_refl _) (by omega)) ?_
    rw [← hw_cl_end J0] at init
    exact init
  · have e15 : (hw_cl h L0 m).1 13 0 15 = nI L0.1 := by
      rw [hw_cl_at, if_neg (fun z => absurd z.1 (by decide))]
      exact J0.1
    refine hq_bf (hz_nle (a := L0.1) (b := m) e15 rfl hm (by omega)) ?_
    refine ⟨m, by omega, rfl, ?_⟩
    have em : (hw_cl h L0 m).1 19 0 m = nI (L0.2 m) := by
      rw [hw_cl_at, if_neg (fun z => absurd z.1 (by decide))]
      exact J0.2.1 m hm
    refine ⟨L0.2 m, hp_lt_row J0.2.2.2 hm, em, ?_⟩
    rw [nI_succ m, ← hw_cl_s] at ih
    exact ih
theorem m_sbj (d : Nat) (h : hq_H) (st : hz_St) (H : hm_S (h.1 14 0) st) (hok : hz_okS st) {L0 : hz_J} (J0 : hm_J h L0) {x : Int32} {S : Nat} (hx : x = nI S) (hS : S < 2 ^ 31) : hq_Met (d + 4) MX7_standsByJoining [.inr (13, 0), hz_i x] h (hz_o (hz_b (!hj_in (hz_joined st S) 0))) (hw_mj h (hz_joined st S)) := by
  refine inX7_standsByJoining (d + 3) 0 x h _ _ (fun _ => trivial) (fun J b0 => b0 _ _ _ ?_)
  refine ⟨_, _, m_closes d h st H hok J0 hx hS, ?_⟩
  refine ⟨0, by decide, rfl, ?_⟩
  have es : (hw_mj h (hz_joined st S)).1 18 0 0 = hz_b (hj_in (hz_joined st S) 0) := hw_mj_s h _ (by decide)
  cases i : hj_in (hz_joined st S) 0 with
  | true =>
    rw [i] at es
    exact hq_nt (fun z => absurd (es.symm.trans z) (by decide)) ⟨Or.inl rfl, rfl, rfl⟩
  | false =>
    rw [i] at es
    exact hq_nf es ⟨Or.inr rfl, rfl, rfl⟩
theorem r_canStandByJoining (d : Nat) (h : hq_H) (w : hz_W) (R : hm_RM h w) (ok : hz_okW w) (x : Int32) : hm_Ans MX7_canStandByJoining (d + 5) [.inr (13, 0), hz_i x] h hz_IAE (sp_set w x (fun S => hz_b (!hj_in (hz_joined w.1 S) 0))) := by
  have n10 := ok.1.1
  have p10 := hz_p10 n10
  have mr := m_areRules (d + 3) w.1.1 x h R.1.1.1 n10
  have R0 := hm_RM_th 0 R ok
  unfold sp_set
  cases hx : hz_ix x (2 ^ w.1.1) with
  | none =>
    rw [hx] at mr
    refine hm_no (v := .int 0) R ok (x := 1) (by decide) ?_
    refine inX7_canStandByJoining (d + 4) 0 x h _ _ (fun _ => trivial) (fun J b0 => b0 _ _ _ ?_)
    exact ⟨_, _, mr, _, _, m_goes (d + 3) false true true h, hq_bt rfl ⟨Or.inl rfl, rfl, rfl⟩⟩
  | some S =>
    rw [hx] at mr
    obtain ⟨rfl, hS⟩ := hz_ix_s (by omega) hx
    obtain ⟨L0, J0⟩ := R0.2.2.2.2
    refine ⟨hw_mj (hq_si h 13 0 3 0) (hz_joined w.1 S), _, ?_, hm_RM_mj R0 (hz_joined_ok ok.1 S), (hw_Mo_13 h 3 0).trans (hw_Mo_mj _ _), (hw_mj_f _ _ (by decide)).trans (hm_th1 h 0), rfl⟩
    refine inX7_canStandByJoining (d + 4) 0 (nI S) h _ _ (fun _ => trivial) (fun J b0 => b0 _ _ _ ?_)
    refine ⟨_, _, mr, _, _, m_goes (d + 3) true true true h, hq_bf hz_one0 ?_⟩
    refine ⟨_, _, m_sbj d _ w.1 R0.1.1 ok.1 J0 rfl (by omega), ?_⟩
    cases e : hj_in (hz_joined w.1 S) 0 with
    | true => exact hq_bt rfl ⟨Or.inl rfl, hz_rf (b := !hj_in (hz_joined w.1 S) 0) (by rw [e]; rfl), rfl⟩
    | false => exact hq_bf hz_one0 ⟨Or.inr rfl, hz_rb (b := !hj_in (hz_joined w.1 S) 0) (by rw [e]; rfl), rfl⟩
theorem r_joined (d : Nat) (h : hq_H) (w : hz_W) (R : hm_RM h w) (ok : hz_okW w) (x : Int32) : hm_Ans MX7_joined (d + 5) [.inr (13, 0), hz_i x] h hz_IAE (sp_set w x (fun S => nI (hz_joined w.1 S).1)) := by
  have n10 := ok.1.1
  have p10 := hz_p10 n10
  have mr := m_areRules (d + 3) w.1.1 x h R.1.1.1 n10
  have R0 := hm_RM_th 0 R ok
  unfold sp_set
  cases hx : hz_ix x (2 ^ w.1.1) with
  | none =>
    rw [hx] at mr
    refine hm_no (v := .int 0) R ok (x := 1) (by decide) ?_
    refine inX7_joined (d + 4) 0 x h _ _ (fun _ => trivial) (fun J b0 => b0 _ _ _ ?_)
    exact ⟨_, _, mr, _, _, m_goes (d + 3) false true true h, hq_bt rfl ⟨rfl, rfl⟩⟩
  | some S =>
    rw [hx] at mr
    obtain ⟨rfl, hS⟩ := hz_ix_s (by omega) hx
    obtain ⟨L0, J0⟩ := R0.2.2.2.2
    refine ⟨hw_mj (hq_si h 13 0 3 0) (hz_joined w.1 S), _, ?_, hm_RM_mj R0 (hz_joined_ok ok.1 S), (hw_Mo_13 h 3 0).trans (hw_Mo_mj _ _), (hw_mj_f _ _ (by decide)).trans (hm_th1 h 0), rfl⟩
    refine inX7_joined (d + 4) 0 (nI S) h _ _ (fun _ => trivial) (fun J b0 => b0 _ _ _ ?_)
    refine ⟨_, _, mr, _, _, m_goes (d + 3) true true true h, hq_bf hz_one0 ?_⟩
    exact ⟨_, _, m_closes (d + 1) _ w.1 R0.1.1 ok.1 J0 rfl (by omega), rfl, rfl⟩
