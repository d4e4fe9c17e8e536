-- ===== joining tells the same as ways =====
theorem hx_any_f {p : Nat → Bool} {n : Nat} : hz_any p n = false ↔ ∀ k, k < n → p k = false := by
  constructor
  · intro h k hk
    refine ts_nt (fun z => ?_)
    rw [hz_any_iff.mpr ⟨k, hk, z⟩] at h
    cases h
  · intro h
    refine ts_nt (fun z => ?_)
    obtain ⟨k, hk, e⟩ := hz_any_iff.mp z
    rw [h k hk] at e
    cases e
/-- a made rule holds in a way -/
def hx_sat (c k : Nat) : Bool := hz_any (fun b => (c.testBit (b + 6) && k.testBit b) || (c.testBit b && !k.testBit b)) 6
theorem hx_sat_f {c k : Nat} : hx_sat c k = false ↔ ∀ b, b < 6 → ((c.testBit (b + 6) && k.testBit b) || (c.testBit b && !k.testBit b)) = false := hx_any_f
theorem hx_sat_t {c k : Nat} : hx_sat c k = true ↔ ∃ b, b < 6 ∧ ((c.testBit (b + 6) && k.testBit b) || (c.testBit b && !k.testBit b)) = true := hz_any_iff
theorem hx_al_hi (A B : Nat) {b : Nat} (hb : b < 6) : (hj_al A B).testBit (b + 6) = ((A.testBit (b + 6) || B.testBit (b + 6)) && !(hj_cn A B).testBit b) := by
  have c6 := hj_cn_lt A B
  have m2 : (hj_cn A B * 64).testBit (b + 6) = (hj_cn A B).testBit b := by
    have e : (hj_cn A B * 2 ^ 6).testBit (b + 6) = _ := Nat.testBit_mul_two_pow ..
    rw [show (64 : Nat) = 2 ^ 6 from rfl, e, decide_eq_true (by omega), Bool.true_and, show b + 6 - 6 = b by omega]
  have m3 : (hj_cn A B).testBit (b + 6) = false := hz_bit6 c6 (by omega)
  unfold hj_al
  rw [hz_dif_bit, Nat.testBit_or, Nat.testBit_or, m2, m3, Bool.or_false]
theorem hx_al_lo (A B : Nat) {b : Nat} (hb : b < 6) : (hj_al A B).testBit b = ((A.testBit b || B.testBit b) && !(hj_cn A B).testBit b) := by
  have m1 : (hj_cn A B * 64).testBit b = false := by
    have e : (hj_cn A B * 2 ^ 6).testBit b = _ := Nat.testBit_mul_two_pow ..
    rw [show (64 : Nat) = 2 ^ 6 from rfl, e, decide_eq_false (by omega), Bool.false_and]
  unfold hj_al
  rw [hz_dif_bit, Nat.testBit_or, Nat.testBit_or, m1, Bool.false_or]
theorem hx_sound {A B k r : Nat} (hA : hj_v A) (hB : hj_v B) (hr : r < 6) (hc : hj_cn A B = 2 ^ r) (sA : hx_sat A k = true) (sB : hx_sat B k = true) : hx_sat (hj_al A B) k = true := by
  obtain ⟨a, ha, ea⟩ := hx_sat_t.mp sA
  obtain ⟨b, hb, eb⟩ := hx_sat_t.mp sB
  by_cases za : r = a
  · by_cases zb : r = b
    · subst za
      subst zb
      exfalso
      have v1 := hA.2 r hr
      have v2 := hB.2 r hr
      have c := hj_cn_bit A B hr
      rw [hc, Nat.testBit_two_pow_self] at c
      revert v1 v2 c ea eb
      cases A.testBit (r + 6) <;> cases A.testBit r <;> cases B.testBit (r + 6) <;> cases B.testBit r <;> cases k.testBit r <;> decide
    · refine hx_sat_t.mpr ⟨b, hb, ?_⟩
      rw [hx_al_hi A B hb, hx_al_lo A B hb, hc, Nat.testBit_two_pow, decide_eq_false zb]
      revert eb
      cases A.testBit (b + 6) <;> cases A.testBit b <;> cases B.testBit (b + 6) <;> cases B.testBit b <;> cases k.testBit b <;> decide
  · refine hx_sat_t.mpr ⟨a, ha, ?_⟩
    rw [hx_al_hi A B ha, hx_al_lo A B ha, hc, Nat.testBit_two_pow, decide_eq_false za]
    revert ea
    cases A.testBit (a + 6) <;> cases A.testBit a <;> cases B.testBit (a + 6) <;> cases B.testBit a <;> cases k.testBit a <;> decide
theorem hx_code {st : hz_St} (hok : hz_okS st) {i : Nat} (hi : i < st.1) (k : Nat) : hx_sat (hj_code st i) k = hz_hold (st.2.1 i 0) (st.2.1 i 1) (nI k) := by
  obtain ⟨⟨l, e, hl, he, hL, hE, -, -⟩, -, -⟩ := hok.2.2 i hi
  have c : hj_code st i = 64 * l + e := by
    unfold hj_code
    rw [hL, hE, nI_clamp (by omega), nI_clamp (by omega)]
  rw [c, hL, hE]
  have key : hx_sat (64 * l + e) k = false ↔ hz_hold (nI l) (nI e) (nI k) = false := by
    rw [hz_hold_f hl he, hx_sat_f]
    refine forall_congr' (fun b => forall_congr' (fun hb => ?_))
    rw [hj_64 he, hj_64 he, if_neg (by omega), if_pos hb, show b + 6 - 6 = b by omega]
    cases l.testBit b <;> cases e.testBit b <;> cases k.testBit b <;> decide
  cases h : hz_hold (nI l) (nI e) (nI k) with
  | false => exact key.mpr h
  | true => exact ts_nf (fun z => by
      rw [key.mp z] at h
      cases h)
def hx_all (L : hz_J) (w : Nat) : Prop := ∀ c, hj_in L c = true → hx_sat c w = true
theorem hx_at_in {L : hz_J} {i : Nat} (hi : i < L.1) : hj_in L (L.2 i) = true := hj_in_iff.mpr ⟨i, hi, rfl⟩
theorem hx_add_all {L : hz_J} {c w : Nat} (h : hx_all L w) (hc : hx_sat c w = true) : hx_all (hj_add L c) w := by
  intro x hx
  rw [hj_add_in, Bool.or_eq_true, decide_eq_true_iff] at hx
  rcases hx with hx | hx
  · exact h x hx
  · rw [← hx]
    exact hc
theorem hx_jn_all {A B w : Nat} {L : hz_J} (hA : hj_v A) (hB : hj_v B) (sA : hx_sat A w = true) (sB : hx_sat B w = true) (h : hx_all L w) : hx_all (hj_jn A B L) w := by
  unfold hj_jn
  split
  · rename_i c
    obtain ⟨r, hr, e⟩ := (hj_pow _ (hj_cn_lt A B)).mp c
    exact hx_add_all h (hx_sound hA hB hr e sA sB)
  · exact h
theorem hx_row_all {L : hz_J} {w k : Nat} (ok : hj_ok L) (hk : k < L.1) (h : hx_all L w) : ∀ j, j ≤ k → hx_all (hj_row L k j) w
  | 0, _ => h
  | j + 1, hj => hx_jn_all (ok.1 k hk) (ok.1 j (by omega)) (h _ (hx_at_in hk)) (h _ (hx_at_in (by omega))) (hx_row_all ok hk h j (by omega))
theorem hx_close_all {w : Nat} : ∀ f k (L : hz_J), hj_ok L → hx_all L w → hx_all (hj_close f k L) w
  | 0, _, _, _, h => h
  | f + 1, k, L, ok, h => by
    show hx_all (if k < L.1 then hj_close f (k + 1) (hj_row L k k) else L) w
    split
    · rename_i c
      exact hx_close_all f (k + 1) _ (hj_row_ok ok c k (Nat.le_refl _)) (hx_row_all ok c h k (Nat.le_refl _))
    · exact h
theorem hx_init_in {st : hz_St} {S c : Nat} : ∀ n, hj_in (hj_init st S n) c = true ↔ ∃ i, i < n ∧ S.testBit i = true ∧ hj_code st i = c
  | 0 => by
    constructor
    · intro h
      obtain ⟨i, hi, -⟩ := hj_in_iff.mp h
      exact absurd hi (Nat.not_lt_zero i)
    · rintro ⟨i, hi, -⟩
      exact absurd hi (Nat.not_lt_zero i)
  | n + 1 => by
    have ih := hx_init_in (st := st) (S := S) (c := c) n
    show hj_in (if S.testBit n = true then hj_add (hj_init st S n) (hj_code st n) else hj_init st S n) c = true ↔ _
    by_cases t : S.testBit n = true
    · rw [if_pos t, hj_add_in, Bool.or_eq_true, ih, decide_eq_true_iff]
      constructor
      · rintro (⟨i, hi, a, b⟩ | e)
        · exact ⟨i, by omega, a, b⟩
        · exact ⟨n, by omega, t, e⟩
      · rintro ⟨i, hi, a, b⟩
        by_cases z : i = n
        · rw [z] at b
          exact Or.inr b
        · exact Or.inl ⟨i, by omega, a, b⟩
    · rw [if_neg t, ih]
      constructor
      · rintro ⟨i, hi, a, b⟩
        exact ⟨i, by omega, a, b⟩
      · rintro ⟨i, hi, a, b⟩
        by_cases z : i = n
        · rw [z] at a
          exact absurd a t
        · exact ⟨i, by omega, a, b⟩
theorem hx_stands_no {st : hz_St} (hok : hz_okS st) {S : Nat} (h : hj_in (hz_joined st S) 0 = true) : hz_stand st S = 0 := by
  rw [hx_st]
  intro k hk
  refine ts_nt (fun g => ?_)
  have a0 : hx_all (hj_init st S st.1) k := fun c hc => by
    obtain ⟨i, hi, t, e⟩ := (hx_init_in st.1).mp hc
    rw [← e, hx_code hok hi]
    exact hx_good.mp g i hi t
  have a1 := hx_close_all 729 1 _ (hj_init_ok hok S st.1 (Nat.le_refl _)) a0 0 h
  obtain ⟨b, hb, e⟩ := hx_sat_t.mp a1
  rw [Nat.zero_testBit, Nat.zero_testBit] at e
  exact absurd e (by simp)
-- ===== the closing comes to its end =====
def hx_pr (L : hz_J) (A B : Nat) : Prop := ∀ r, r < 6 → hj_cn A B = 2 ^ r → hj_in L (hj_al A B) = true
def hx_sub (L L' : hz_J) : Prop := ∀ c, hj_in L c = true → hj_in L' c = true
theorem hx_sub_add (L : hz_J) (c : Nat) : hx_sub L (hj_add L c) := fun x hx => by
  rw [hj_add_in, hx]
  rfl
theorem hx_sub_jn (A B : Nat) (L : hz_J) : hx_sub L (hj_jn A B L) := by
  unfold hj_jn
  split
  · exact hx_sub_add _ _
  · exact fun _ h => h
theorem hx_jn_pr (A B : Nat) (L : hz_J) : hx_pr (hj_jn A B L) A B := by
  intro r hr e
  have c := (hj_pow _ (hj_cn_lt A B)).mpr ⟨r, hr, e⟩
  unfold hj_jn
  rw [if_pos c, hj_add_in, decide_eq_true rfl, Bool.or_true]
theorem hx_row_pr (L : hz_J) (k : Nat) : ∀ m j, j < m → hx_pr (hj_row L k m) (L.2 k) (L.2 j)
  | 0, j, h => absurd h (Nat.not_lt_zero j)
  | m + 1, j, h => by
    show hx_pr (hj_jn (L.2 k) (L.2 m) (hj_row L k m)) (L.2 k) (L.2 j)
    by_cases z : j = m
    · rw [z]
      exact hx_jn_pr _ _ _
    · exact fun r hr e => hx_sub_jn _ _ _ _ (hx_row_pr L k m j (by omega) r hr e)
theorem hx_sub_row (L : hz_J) (k : Nat) : ∀ m, hx_sub L (hj_row L k m)
  | 0 => fun _ h => h
  | m + 1 => fun c h => hx_sub_jn _ _ _ _ (hx_sub_row L k m c h)
def hx_upto (L : hz_J) (k : Nat) : Prop := ∀ i j, j < i → i < k → i < L.1 → hx_pr L (L.2 i) (L.2 j)
theorem hx_close_end : ∀ f k (L : hz_J), hj_ok L → hx_upto L k → 730 ≤ f + k → hx_upto (hj_close f k L) (hj_close f k L).1
  | 0, k, L, ok, h, hk => by
    have m := hj_max ok
    exact fun i j hj hi _ => h i j hj (by have hi : i < L.1 := hi; omega) hi
  | f + 1, k, L, ok, h, hk => by
    have e : hj_close (f + 1) k L = if k < L.1 then hj_close f (k + 1) (hj_row L k k) else L := rfl
    rw [e]
    by_cases c : k < L.1
    · rw [if_pos c]
      have pre := hj_pre_row L k k
      refine hx_close_end f (k + 1) _ (hj_row_ok ok c k (Nat.le_refl _)) (fun i j hj hi _ => ?_) (by omega)
      rw [pre.2 i (by omega), pre.2 j (by omega)]
      by_cases z : i = k
      · subst z
        exact hx_row_pr L i i j hj
      · exact fun r hr e => hx_sub_row L k k _ (h i j hj (by omega) (by omega) r hr e)
    · rw [if_neg c]
      exact fun i j hj hi _ => h i j hj (by omega) hi
theorem hx_sub_close : ∀ f k (L : hz_J), hx_sub L (hj_close f k L)
  | 0, _, _ => fun _ h => h
  | f + 1, k, L => by
    show hx_sub L (if k < L.1 then hj_close f (k + 1) (hj_row L k k) else L)
    split
    · exact fun c h => hx_sub_close f (k + 1) _ c (hx_sub_row L k k c h)
    · exact fun _ h => h
theorem hx_close_pre : ∀ f k (L : hz_J), hj_pre L (hj_close f k L)
  | 0, _, _ => ⟨Nat.le_refl _, fun _ _ => rfl⟩
  | f + 1, k, L => by
    show hj_pre L (if k < L.1 then hj_close f (k + 1) (hj_row L k k) else L)
    split
    · exact (hj_pre_row L k k).trans (hx_close_pre f (k + 1) _)
    · exact ⟨Nat.le_refl _, fun _ _ => rfl⟩
-- ===== where nothing is missing, a way room by room =====
def hx_low (c m : Nat) : Prop := ∀ b, b < 6 → m ≤ b → c.testBit (b + 6) = false ∧ c.testBit b = false
theorem hx_low0 {c : Nat} (h : c < 4096) (z : hx_low c 0) : c = 0 := by
  apply Nat.eq_of_testBit_eq
  intro i
  rw [Nat.zero_testBit]
  by_cases h1 : i < 6
  · exact (z i h1 (Nat.zero_le _)).2
  · by_cases h2 : i < 12
    · have q := (z (i - 6) (by omega) (Nat.zero_le _)).1
      rw [show i - 6 + 6 = i by omega] at q
      exact q
    · exact Nat.testBit_lt_two_pow (Nat.lt_of_lt_of_le (show c < 2 ^ 12 from h) (Nat.pow_le_pow_right (by decide) (by omega)))
theorem hx_pick {L : hz_J} {w m : Nat} (h : ¬ ∀ c, hj_in L c = true → hx_low c m → hx_sat c w = true) : ∃ c, hj_in L c = true ∧ hx_low c m ∧ hx_sat c w = false := by
  by_cases z : ∃ c, hj_in L c = true ∧ hx_low c m ∧ hx_sat c w = false
  · exact z
  · exact absurd (fun c h1 h2 => ts_nf (fun y => z ⟨c, h1, h2, y⟩)) h
theorem hx_two {L : hz_J} (cl : hx_upto L L.1) {c0 c1 r : Nat} (h0 : hj_in L c0 = true) (h1 : hj_in L c1 = true) (ne : c0 ≠ c1) (hr : r < 6) (e : hj_cn c0 c1 = 2 ^ r) : hj_in L (hj_al c0 c1) = true := by
  obtain ⟨i, hi, e0⟩ := hj_in_iff.mp h0
  obtain ⟨j, hj, e1⟩ := hj_in_iff.mp h1
  rcases Nat.lt_trichotomy i j with z | z | z
  · have q := cl j i z hj hj r hr
    rw [e0, e1, hj_cn_comm, hj_al_comm] at q
    exact q e
  · rw [z, e1] at e0
    exact absurd e0.symm ne
  · have q := cl i j z hi hi r hr
    rw [e0, e1] at q
    exact q e
theorem hx_ways {L : hz_J} (ok : hj_ok L) (cl : hx_upto L L.1) (h0 : hj_in L 0 = false) : ∀ m, m ≤ 6 → ∃ w, w < 2 ^ m ∧ ∀ c, hj_in L c = true → hx_low c m → hx_sat c w = true
  | 0, _ => ⟨0, by decide, fun c hc z => by
    obtain ⟨i, hi, e⟩ := hj_in_iff.mp hc
    have lt := (ok.1 i hi).1
    rw [e] at lt
    rw [hx_low0 lt z, h0] at hc
    cases hc⟩
  | m + 1, hm => by
    obtain ⟨w, hw, ih⟩ := hx_ways ok cl h0 m (by omega)
    have p2 : 2 ^ (m + 1) = 2 ^ m + 2 ^ m := by rw [Nat.pow_succ]; omega
    have wm : w.testBit m = false := Nat.testBit_lt_two_pow hw
    by_cases a0 : ∀ c, hj_in L c = true → hx_low c (m + 1) → hx_sat c w = true
    · exact ⟨w, by omega, a0⟩
    by_cases a1 : ∀ c, hj_in L c = true → hx_low c (m + 1) → hx_sat c (2 ^ m + w) = true
    · exact ⟨2 ^ m + w, by omega, a1⟩
    exfalso
    obtain ⟨c0, i0, l0, s0⟩ := hx_pick a0
    obtain ⟨c1, i1, l1, s1⟩ := hx_pick a1
    have f0 := hx_sat_f.mp s0
    have f1 := hx_sat_f.mp s1
    have w1 : ∀ b, (2 ^ m + w).testBit b = (w.testBit b || decide (m = b)) := fun b => hz_tb_or hw b
    have lo0 : c0.testBit m = false := by
      have q := f0 m (by omega)
      rw [wm] at q
      revert q
      cases c0.testBit (m + 6) <;> cases c0.testBit m <;> decide
    have hi1 : c1.testBit (m + 6) = false := by
      have q := f1 m (by omega)
      rw [w1, wm, decide_eq_true rfl] at q
      revert q
      cases c1.testBit (m + 6) <;> cases c1.testBit m <;> decide
    have hi0 : c0.testBit (m + 6) = true := ts_nf (fun z => by
      have q := ih c0 i0 (fun b hb hmb => by
        by_cases y : b = m
        · rw [y]
          exact ⟨z, lo0⟩
        · exact l0 b hb (by omega))
      rw [s0] at q
      cases q)
    have s1w : c1.testBit m = false → False := fun z => by
      have low1 : hx_low c1 m := fun b hb hmb => by
        by_cases y : b = m
        · rw [y]
          exact ⟨hi1, z⟩
        · exact l1 b hb (by omega)
      have q := ih c1 i1 low1
      obtain ⟨b, hb, e⟩ := hx_sat_t.mp q
      have f := f1 b hb
      by_cases y : m = b
      · have g := low1 b hb (by omega)
        rw [g.1, g.2] at e
        exact absurd e (by simp)
      · rw [w1, decide_eq_false y, Bool.or_false, e] at f
        cases f
    have lo1 : c1.testBit m = true := ts_nf s1w
    have both : ∀ b, b < 6 → b ≠ m → ((c0.testBit (b + 6) && w.testBit b) || (c0.testBit b && !w.testBit b)) = false ∧ ((c1.testBit (b + 6) && w.testBit b) || (c1.testBit b && !w.testBit b)) = false := fun b hb y => by
      have g := f1 b hb
      rw [w1, decide_eq_false (fun z => y z.symm), Bool.or_false] at g
      exact ⟨f0 b hb, g⟩
    have cn : hj_cn c0 c1 = 2 ^ m := by
      apply Nat.eq_of_testBit_eq
      intro b
      rw [Nat.testBit_two_pow]
      by_cases hb : b < 6
      · rw [hj_cn_bit c0 c1 hb]
        by_cases y : m = b
        · subst y
          rw [hi0, lo1, decide_eq_true rfl]
          rfl
        · rw [decide_eq_false y]
          by_cases z : m < b
          · have g0 := l0 b hb (by omega)
            have g1 := l1 b hb (by omega)
            rw [g0.1, g0.2]
            rfl
          · obtain ⟨g0, g1⟩ := both b hb (fun z => y z.symm)
            revert g0 g1
            cases c0.testBit (b + 6) <;> cases c0.testBit b <;> cases c1.testBit (b + 6) <;> cases c1.testBit b <;> cases w.testBit b <;> decide
      · rw [hz_bit6 (hj_cn_lt c0 c1) (by omega), decide_eq_false (by omega)]
    have ne : c0 ≠ c1 := fun z => by
      rw [z, hi1] at hi0
      cases hi0
    have ia := hx_two cl i0 i1 ne (by omega) cn
    have la : hx_low (hj_al c0 c1) m := fun b hb hmb => by
      rw [hx_al_hi c0 c1 hb, hx_al_lo c0 c1 hb, cn, Nat.testBit_two_pow]
      by_cases y : m = b
      · rw [decide_eq_true y]
        exact ⟨Bool.and_false _, Bool.and_false _⟩
      · have g0 := l0 b hb (by omega)
        have g1 := l1 b hb (by omega)
        rw [g0.1, g0.2, g1.1, g1.2]
        exact ⟨rfl, rfl⟩
    obtain ⟨b, hb, e⟩ := hx_sat_t.mp (ih _ ia la)
    rw [hx_al_hi c0 c1 hb, hx_al_lo c0 c1 hb, cn, Nat.testBit_two_pow] at e
    by_cases y : m = b
    · rw [decide_eq_true y] at e
      revert e
      cases c0.testBit (b + 6) <;> cases c0.testBit b <;> cases c1.testBit (b + 6) <;> cases c1.testBit b <;> cases w.testBit b <;> decide
    · obtain ⟨g0, g1⟩ := both b hb (fun z => y z.symm)
      revert e g0 g1
      cases decide (m = b) <;> cases c0.testBit (b + 6) <;> cases c0.testBit b <;> cases c1.testBit (b + 6) <;> cases c1.testBit b <;> cases w.testBit b <;> decide
theorem hx_join {st : hz_St} (hok : hz_okS st) (S : Nat) : (!hj_in (hz_joined st S) 0) = hz_nz (hz_stand st S) := by
  have e : hj_in (hz_joined st S) 0 = decide (hz_stand st S = 0) := by
    cases c : hj_in (hz_joined st S) 0 with
    | true => exact (decide_eq_true (hx_stands_no hok c)).symm
    | false =>
      have ok0 := hj_init_ok hok S st.1 (Nat.le_refl _)
      have cl : hx_upto (hz_joined st S) (hz_joined st S).1 := hx_close_end 729 1 _ ok0 (fun i j hj hi _ => by omega) (Nat.le_refl _)
      obtain ⟨w, hw, h⟩ := hx_ways (hz_joined_ok hok S) cl c 6 (Nat.le_refl _)
      refine (decide_eq_false ?_).symm
      rw [hx_st1]
      refine ⟨w, hw, hx_good.mpr (fun i hi t => ?_)⟩
      rw [← hx_code hok hi]
      refine h _ (hx_sub_close 729 1 _ _ ((hx_init_in st.1).mpr ⟨i, hi, t, rfl⟩)) (fun b hb hmb => by omega)
  rw [e]
  rfl
theorem hx_joined1 {st : hz_St} {S : Nat} (hS : S < 2 ^ st.1) (h : S ≠ 0) : 1 ≤ (hz_joined st S).1 := by
  by_cases c : ∃ i, i < st.1 ∧ S.testBit i = true
  · obtain ⟨i, hi, t⟩ := c
    obtain ⟨j, hj, -⟩ := hj_in_iff.mp ((hx_init_in (st := st) (S := S) st.1).mpr ⟨i, hi, t, rfl⟩)
    have p := (hx_close_pre 729 1 (hj_init st S st.1)).1
    show 1 ≤ (hj_close 729 1 (hj_init st S st.1)).1
    omega
  · exfalso
    apply h
    apply Nat.eq_of_testBit_eq
    intro i
    rw [Nat.zero_testBit]
    by_cases hi : i < st.1
    · exact ts_nt (fun t => c ⟨i, hi, t⟩)
    · exact Nat.testBit_lt_two_pow (Nat.lt_of_lt_of_le hS (Nat.pow_le_pow_right (by decide) (by omega)))
