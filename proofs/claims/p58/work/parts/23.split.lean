-- ===== bits of rules and ways =====
theorem hz_bit6 {a i : Nat} (ha : a < 64) (hi : ¬ i < 6) : a.testBit i = false := Nat.testBit_lt_two_pow (Nat.lt_of_lt_of_le ha (show 64 ≤ 2 ^ i from Nat.pow_le_pow_right (show 0 < 2 by decide) (show 6 ≤ i by omega)))
theorem hz_and0 {a : Nat} (b : Nat) (ha : a < 64) : a &&& b = 0 ↔ ∀ i, i < 6 → (a.testBit i && b.testBit i) = false := by
  constructor
  · intro h i _
    rw [← Nat.testBit_and, h, Nat.zero_testBit]
  · intro h
    apply Nat.eq_of_testBit_eq
    intro i
    rw [Nat.testBit_and, Nat.zero_testBit]
    by_cases hi : i < 6
    · exact h i hi
    · rw [hz_bit6 ha hi]
      rfl
theorem hz_dif0 {a : Nat} (b : Nat) (ha : a < 64) : hz_dif a b = 0 ↔ ∀ i, i < 6 → (a.testBit i && !b.testBit i) = false := by
  constructor
  · intro h i _
    rw [← hz_dif_bit, h, Nat.zero_testBit]
  · intro h
    apply Nat.eq_of_testBit_eq
    intro i
    rw [hz_dif_bit, Nat.zero_testBit]
    by_cases hi : i < 6
    · exact h i hi
    · rw [hz_bit6 ha hi]
      rfl
theorem hz_andI {a : Nat} (b : Nat) (ha : a < 2 ^ 31) : nI a &&& nI b = 0 ↔ a &&& b = 0 := by
  rw [hz_andN]
  exact nI_eq (a := a &&& b) (b := 0) (Nat.lt_of_le_of_lt Nat.and_le_left ha) (by decide)
theorem hz_difI {a : Nat} (b : Nat) (ha : a < 2 ^ 31) : nI a &&& (nI b ^^^ -1) = 0 ↔ hz_dif a b = 0 := by
  rw [hz_difN]
  exact nI_eq (a := hz_dif a b) (b := 0) (hz_dif_lt b ha) (by decide)
theorem hz_hold_f {l e k : Nat} (hl : l < 64) (he : e < 64) : hz_hold (nI l) (nI e) (nI k) = false ↔ ∀ i, i < 6 → (l.testBit i && k.testBit i) = false ∧ (e.testBit i && !k.testBit i) = false := by
  have e1 : nI l &&& nI k = 0 ↔ _ := (hz_andI k (by omega)).trans (hz_and0 k hl)
  have e2 : nI e &&& (nI k ^^^ -1) = 0 ↔ _ := (hz_difI k (by omega)).trans (hz_dif0 k he)
  unfold hz_hold
  constructor
  · intro h i hi
    by_cases c1 : nI l &&& nI k = 0
    · by_cases c2 : nI e &&& (nI k ^^^ -1) = 0
      · exact ⟨e1.mp c1 i hi, e2.mp c2 i hi⟩
      · rw [decide_eq_true c1, decide_eq_false c2] at h
        cases h
    · rw [decide_eq_false c1] at h
      cases h
  · intro h
    rw [decide_eq_true (e1.mpr (fun i hi => (h i hi).1)), decide_eq_true (e2.mpr (fun i hi => (h i hi).2))]
    rfl
theorem hz_lostAll_t {l e a b : Nat} (hl : l < 64) (he : e < 64) : hz_lostAll (nI l) (nI e) (nI a) (nI b) = true ↔ ∀ i, i < 6 → (l.testBit i && !b.testBit i) = false ∧ (e.testBit i && !a.testBit i) = false := by
  have e1 : nI l &&& (nI b ^^^ -1) = 0 ↔ _ := (hz_difI b (by omega)).trans (hz_dif0 b hl)
  have e2 : nI e &&& (nI a ^^^ -1) = 0 ↔ _ := (hz_difI a (by omega)).trans (hz_dif0 a he)
  unfold hz_lostAll
  constructor
  · intro h i hi
    by_cases c1 : nI l &&& (nI b ^^^ -1) = 0
    · by_cases c2 : nI e &&& (nI a ^^^ -1) = 0
      · exact ⟨e1.mp c1 i hi, e2.mp c2 i hi⟩
      · rw [decide_eq_true c1, decide_eq_false c2] at h
        cases h
    · rw [decide_eq_false c1] at h
      cases h
  · intro h
    rw [decide_eq_true (e1.mpr (fun i hi => (h i hi).1)), decide_eq_true (e2.mpr (fun i hi => (h i hi).2))]
    rfl
theorem hz_cnt_0 {p : Nat → Bool} : ∀ {n : Nat}, (∀ k, k < n → p k = false) → hz_cnt p n = 0
  | 0, _ => rfl
  | n + 1, h => by
    show hz_cnt p n + (if p n = true then 1 else 0) = 0
    rw [hz_cnt_0 (fun k hk => h k (by omega)), h n (by omega)]
    rfl
theorem hz_cnt_1 (a : Nat) : ∀ n, hz_cnt (fun k => decide (k = a)) n = if a < n then 1 else 0
  | 0 => (if_neg (Nat.not_lt_zero a)).symm
  | n + 1 => by
    show hz_cnt (fun k => decide (k = a)) n + (if decide (n = a) = true then 1 else 0) = _
    rw [hz_cnt_1 a n]
    by_cases c : n = a
    · rw [decide_eq_true c, if_neg (by omega), if_pos rfl, if_pos (by omega)]
    · rw [decide_eq_false c]
      by_cases c2 : a < n
      · rw [if_pos c2, if_pos (show a < n + 1 by omega)]
        rfl
      · rw [if_neg c2, if_neg (show ¬ a < n + 1 by omega)]
        rfl
theorem hz_cnt_2 {p q s : Nat → Bool} : ∀ {n : Nat}, (∀ k, k < n → p k = (q k || s k) ∧ (q k && s k) = false) → hz_cnt p n = hz_cnt q n + hz_cnt s n
  | 0, _ => rfl
  | n + 1, h => by
    have ih := hz_cnt_2 (n := n) (fun k hk => h k (by omega))
    obtain ⟨h1, h2⟩ := h n (by omega)
    show hz_cnt p n + (if p n = true then 1 else 0) = hz_cnt q n + (if q n = true then 1 else 0) + (hz_cnt s n + (if s n = true then 1 else 0))
    rw [ih, h1]
    cases cq : q n with
    | true =>
      cases cs : s n with
      | true => rw [cq, cs] at h2; cases h2
      | false => show _ + 1 = _ + 1 + (_ + 0); omega
    | false =>
      cases cs : s n with
      | true => show _ + 1 = _ + 0 + (_ + 1); omega
      | false => show _ + 0 = _ + 0 + (_ + 0); omega
-- ===== the ways that are left =====
/-- a way keeps what is decided: a let, b empty -/
def hz_fit (a b k : Nat) : Bool := hz_all (fun i => (!a.testBit i || k.testBit i) && (!b.testBit i || !k.testBit i)) 6
/-- all rules of a set hold in a way -/
def hz_good (st : hz_St) (S k : Nat) : Bool := hz_all (fun i => !S.testBit i || hz_hold (st.2.1 i 0) (st.2.1 i 1) (nI k)) st.1
def hz_ways (st : hz_St) (S a b : Nat) : Nat := hz_cnt (fun k => hz_fit a b k && hz_good st S k) 64
theorem hz_fit_iff {a b k : Nat} : hz_fit a b k = true ↔ ∀ i, i < 6 → ((!a.testBit i || k.testBit i) && (!b.testBit i || !k.testBit i)) = true := hz_all_iff
theorem hz_fit_or {a b k r : Nat} (hr : r < 6) (ha : a.testBit r = false) (hb : b.testBit r = false) : hz_fit a b k = (hz_fit a (b ||| 2 ^ r) k || hz_fit (a ||| 2 ^ r) b k) ∧ (hz_fit a (b ||| 2 ^ r) k && hz_fit (a ||| 2 ^ r) b k) = false := by
  have tb : ∀ x i : Nat, (x ||| 2 ^ r).testBit i = (x.testBit i || decide (r = i)) := fun x i => by rw [Nat.testBit_or, Nat.testBit_two_pow]
  cases c : k.testBit r with
  | true =>
    have f1 : hz_fit a (b ||| 2 ^ r) k = false := ts_nt (fun z => by
      have := hz_fit_iff.mp z r hr
      rw [tb, decide_eq_true rfl, c, ha, hb] at this
      cases this)
    have f2 : hz_fit (a ||| 2 ^ r) b k = hz_fit a b k := by
      apply Bool.eq_iff_iff.mpr
      rw [hz_fit_iff, hz_fit_iff]
      refine forall_congr' (fun i => forall_congr' (fun hi => ?_))
      rw [tb]
      by_cases e : r = i
      · subst e
        rw [c, ha, hb, decide_eq_true (rfl : r = r)]
        decide
      · rw [decide_eq_false e, Bool.or_false]
    rw [f1, f2]
    exact ⟨rfl, rfl⟩
  | false =>
    have f1 : hz_fit (a ||| 2 ^ r) b k = false := ts_nt (fun z => by
      have := hz_fit_iff.mp z r hr
      rw [tb, decide_eq_true rfl, c, ha, hb] at this
      cases this)
    have f2 : hz_fit a (b ||| 2 ^ r) k = hz_fit a b k := by
      apply Bool.eq_iff_iff.mpr
      rw [hz_fit_iff, hz_fit_iff]
      refine forall_congr' (fun i => forall_congr' (fun hi => ?_))
      rw [tb]
      by_cases e : r = i
      · subst e
        rw [c, ha, hb, decide_eq_true (rfl : r = r)]
        decide
      · rw [decide_eq_false e, Bool.or_false]
    rw [f1, f2]
    exact ⟨(Bool.or_false _).symm, Bool.and_false _⟩
theorem hz_ways_or (st : hz_St) (S : Nat) {a b r : Nat} (hr : r < 6) (ha : a.testBit r = false) (hb : b.testBit r = false) : hz_ways st S a b = hz_ways st S a (b ||| 2 ^ r) + hz_ways st S (a ||| 2 ^ r) b := by
  refine hz_cnt_2 (fun k hk => ?_)
  obtain ⟨h1, h2⟩ := hz_fit_or (k := k) hr ha hb
  rw [h1]
  cases c1 : hz_fit a (b ||| 2 ^ r) k <;> cases c2 : hz_fit (a ||| 2 ^ r) b k <;> cases c3 : hz_good st S k <;> first | exact ⟨rfl, rfl⟩ | (rw [c1, c2] at h2; cases h2)
theorem hz_ways_lost {st : hz_St} {S a b : Nat} (hok : hz_okS st) (h : hz_mk (hz_lost st.2.1 S (nI a) (nI b)) st.1 ≠ 0) : hz_ways st S a b = 0 := by
  refine hz_cnt_0 (fun k hk => ts_nt (fun z => h (hz_mk_0.mpr (fun i hi => ts_nt (fun y => ?_)))))
  obtain ⟨⟨l, e, hl, he, hL, hE, -, -⟩, -, -⟩ := hok.2.2 i hi
  obtain ⟨z1, z2⟩ := (Bool.and_eq_true _ _ ▸ z : hz_fit a b k = true ∧ hz_good st S k = true)
  have g1 := hz_all_iff.mp z2 i hi
  unfold hz_lost at y
  rw [hL, hE, Bool.and_eq_true] at y
  rw [hL, hE, y.1] at g1
  have y2 := (hz_lostAll_t hl he).mp y.2
  have g2 : hz_hold (nI l) (nI e) (nI k) = false := (hz_hold_f hl he).mpr (fun j hj => by
    have f := hz_fit_iff.mp z1 j hj
    have q := y2 j hj
    revert f q
    cases l.testBit j <;> cases e.testBit j <;> cases a.testBit j <;> cases b.testBit j <;> cases k.testBit j <;> decide)
  rw [g2] at g1
  cases g1
theorem hz_ways_end {st : hz_St} {S a b : Nat} (hok : hz_okS st) (ha : a < 64) (h1 : ∀ i, i < 6 → (a.testBit i && b.testBit i) = false) (h2 : ∀ i, i < 6 → (a.testBit i || b.testBit i) = true) (h : hz_mk (hz_lost st.2.1 S (nI a) (nI b)) st.1 = 0) : hz_ways st S a b = 1 := by
  have e : hz_ways st S a b = hz_cnt (fun k => decide (k = a)) 64 := by
    refine hz_cnt_cong (fun k hk => ?_)
    by_cases c : k = a
    · subst c
      rw [decide_eq_true rfl, Bool.and_eq_true]
      refine ⟨hz_fit_iff.mpr (fun i hi => ?_), hz_all_iff.mpr (fun i hi => ?_)⟩
      · have q1 := h1 i hi
        revert q1
        cases k.testBit i <;> cases b.testBit i <;> decide
      · obtain ⟨⟨l, e, hl, he, hL, hE, -, -⟩, -, -⟩ := hok.2.2 i hi
        have y := hz_mk_0.mp h i hi
        unfold hz_lost at y
        rw [hL, hE] at y ⊢
        cases cs : S.testBit i with
        | false => rfl
        | true =>
          rw [cs, Bool.true_and] at y
          cases cg : hz_hold (nI l) (nI e) (nI k) with
          | true => rfl
          | false =>
            exfalso
            rw [(hz_lostAll_t hl he).mpr (fun j hj => ?_)] at y
            · cases y
            · have f := (hz_hold_f hl he).mp cg j hj
              have q2 := h2 j hj
              revert f q2
              cases l.testBit j <;> cases e.testBit j <;> cases k.testBit j <;> cases b.testBit j <;> decide
    · rw [decide_eq_false c]
      refine hz_andL (ts_nt (fun z => c (Nat.eq_of_testBit_eq (fun i => ?_))))
      by_cases hi : i < 6
      · have f := hz_fit_iff.mp z i hi
        have q1 := h1 i hi
        have q2 := h2 i hi
        revert f q1 q2
        cases a.testBit i <;> cases b.testBit i <;> cases k.testBit i <;> decide
      · rw [hz_bit6 ha hi, hz_bit6 hk hi]
  rw [e, hz_cnt_1, if_pos ha]
theorem x_split (d : Nat) (h : hq_H) (st : hz_St) (H : hz_HC h 0 st) (hok : hz_okS st) (S : Nat) (hS : S < 2 ^ 31) : ∀ m r a b, r + m = 6 → a < 64 → b < 64 → (∀ i, i < 6 → (a.testBit i && b.testBit i) = false) → (∀ i, i < r → (a.testBit i || b.testBit i) = true) →
    hq_Met (d + m + 3) MX6_splitWays [.inr (0, 0), hz_i (nI S), hz_i (nI r), hz_i (nI a), hz_i (nI b)] h (hz_o (nI (hz_ways st S a b))) h
  | 0, r, a, b, hr, ha, hb, h1, h2 => by
    have n10 := hok.1
    have hr6 : r = 6 := hr
    subst hr6
    have hm : hz_mk (hz_lost st.2.1 S (nI a) (nI b)) st.1 < 2 ^ 31 := hz_mk31 _ n10
    refine inX6_splitWays (d + 2) 0 (nI S) (nI 6) (nI a) (nI b) h _ _ (fun _ => trivial) (fun J b0 => b0 _ _ _ ?_)
    refine ⟨_, _, x_X0_rulesLost d 0 S (nI a) (nI b) h st.1 st.2.1 n10 hS H.1 (fun k hk => (H.2.2.2.2.2 k hk).1), ?_⟩
    refine hq_bc (fun c => ?_) (fun c => ?_)
    · refine hq_bf (hz_nlt (a := 6) (b := 6) rfl rfl (Nat.le_refl _) (by decide)) ?_
      have c0 := (nI_eq (b := 0) hm (by decide)).mp c
      exact ⟨hz_ri (congrArg nI (hz_ways_end hok ha h1 h2 c0)), rfl⟩
    · have c0 := fun z => c ((nI_eq (b := 0) hm (by decide)).mpr z)
      exact ⟨hz_ri (congrArg nI (hz_ways_lost hok c0)), rfl⟩
  | m + 1, r, a, b, hr, ha, hb, h1, h2 => by
    have n10 := hok.1
    have r6 : r < 6 := by omega
    have hm : hz_mk (hz_lost st.2.1 S (nI a) (nI b)) st.1 < 2 ^ 31 := hz_mk31 _ n10
    have e1 : nI r + 1 = nI (r + 1) := (nI_succ r).symm
    have e2 : (1 : Int32) <<< (nI r &&& 31) = nI (2 ^ r) := hz_pw (by omega)
    have p6 : 2 ^ r < 64 := show 2 ^ r < 2 ^ 6 from Nat.pow_lt_pow_right (by decide) r6
    show hq_Met (d + m + 3 + 1) MX6_splitWays _ h _ h
    refine inX6_splitWays (d + m + 3) 0 (nI S) (nI r) (nI a) (nI b) h _ _ (fun _ => trivial) (fun J b0 => b0 _ _ _ ?_)
    refine ⟨_, _, x_X0_rulesLost (d + m + 1) 0 S (nI a) (nI b) h st.1 st.2.1 n10 hS H.1 (fun k hk => (H.2.2.2.2.2 k hk).1), ?_⟩
    refine hq_bc (fun c => ?_) (fun c => ?_)
    · refine hq_bt (hz_lt (a := r) (b := 6) rfl rfl r6 (by decide)) ?_
      have tb : ((nI a ||| nI b) &&& ((1 : Int32) <<< (nI r &&& 31)) = 0) ↔ (a.testBit r || b.testBit r) = false := by
        rw [e2, hz_orN, hz_andI _ (Nat.lt_of_lt_of_le (Nat.or_lt_two_pow (n := 6) ha hb) (by decide)), hz_and0 _ (Nat.or_lt_two_pow (n := 6) ha hb)]
        constructor
        · intro z
          have := z r r6
          rw [Nat.testBit_or, Nat.testBit_two_pow, decide_eq_true rfl, Bool.and_true] at this
          exact this
        · intro z i hi
          rw [Nat.testBit_or, Nat.testBit_two_pow]
          by_cases e : r = i
          · subst e
            rw [z]
            rfl
          · rw [decide_eq_false e, Bool.and_false]
      refine hq_bc (fun c2 => ?_) (fun c2 => ?_)
      · have z := tb.mp c2
        have za : a.testBit r = false := by
          revert z
          cases a.testBit r <;> cases b.testBit r <;> decide
        have zb : b.testBit r = false := by
          revert z
          cases a.testBit r <;> cases b.testBit r <;> decide
        have tq : ∀ x i : Nat, (x ||| 2 ^ r).testBit i = (x.testBit i || decide (r = i)) := fun x i => by rw [Nat.testBit_or, Nat.testBit_two_pow]
        have i1 := x_split d h st H hok S hS m (r + 1) a (b ||| 2 ^ r) (by omega) ha (Nat.or_lt_two_pow (n := 6) hb p6) (fun i hi => by
          have q := h1 i hi
          rw [tq]
          by_cases e : r = i
          · subst e
            rw [za]
            rfl
          · rw [decide_eq_false e, Bool.or_false]
            exact q) (fun i hi => by
          rw [tq]
          by_cases e : r = i
          · rw [decide_eq_true e, Bool.or_true, Bool.or_true]
          · rw [decide_eq_false e, Bool.or_false]
            exact h2 i (by omega))
        have i2 := x_split d h st H hok S hS m (r + 1) (a ||| 2 ^ r) b (by omega) (Nat.or_lt_two_pow (n := 6) ha p6) hb (fun i hi => by
          have q := h1 i hi
          rw [tq]
          by_cases e : r = i
          · subst e
            rw [zb, Bool.and_false]
          · rw [decide_eq_false e, Bool.or_false]
            exact q) (fun i hi => by
          rw [tq]
          by_cases e : r = i
          · rw [decide_eq_true e, Bool.or_true]
            rfl
          · rw [decide_eq_false e, Bool.or_false]
            exact h2 i (by omega))
        rw [← e1, ← hz_orN, ← e2] at i1 i2
        refine ⟨_, _, i1, _, _, i2, ?_⟩
        exact ⟨hz_ri (by rw [nI_add, ← hz_ways_or st S r6 za zb]), rfl⟩
      · have z := ts_nf (fun y => c2 (tb.mpr y))
        have i0 := x_split d h st H hok S hS m (r + 1) a b (by omega) ha hb h1 (fun i hi => by
          by_cases e : i = r
          · rw [e]
            exact z
          · exact h2 i (by omega))
        rw [← e1] at i0
        exact ⟨_, _, i0, rfl, rfl⟩
    · have c0 := fun z => c ((nI_eq (b := 0) hm (by decide)).mpr z)
      exact ⟨hz_ri (congrArg nI (hz_ways_lost hok c0)), rfl⟩
