-- ===== the cheapest night by splitting =====
def hz_mn (p : Nat → Bool) (v : Nat → Nat) (b : Nat) : Nat → Nat
  | 0 => b
  | k + 1 => if p k = true ∧ v k < hz_mn p v b k then v k else hz_mn p v b k
theorem hz_mn_s (p : Nat → Bool) (v : Nat → Nat) (b k : Nat) : hz_mn p v b (k + 1) = if p k = true ∧ v k < hz_mn p v b k then v k else hz_mn p v b k := rfl
theorem hz_mn_is (p : Nat → Bool) (v : Nat → Nat) (b : Nat) : ∀ n, hz_mn p v b n ≤ b ∧ (∀ k, k < n → p k = true → hz_mn p v b n ≤ v k) ∧ (hz_mn p v b n = b ∨ ∃ k, k < n ∧ p k = true ∧ hz_mn p v b n = v k)
  | 0 => ⟨Nat.le_refl _, fun k hk => absurd hk (Nat.not_lt_zero k), Or.inl rfl⟩
  | n + 1 => by
    obtain ⟨h1, h2, h3⟩ := hz_mn_is p v b n
    rw [hz_mn_s]
    split
    · rename_i c
      refine ⟨by omega, fun k hk pk => ?_, Or.inr ⟨n, Nat.lt_succ_self n, c.1, rfl⟩⟩
      by_cases e : k = n
      · rw [e]; exact Nat.le_refl _
      · have := h2 k (by omega) pk
        omega
    · rename_i c
      refine ⟨h1, fun k hk pk => ?_, ?_⟩
      · by_cases e : k = n
        · subst e
          exact Nat.le_of_not_lt (fun z => c ⟨pk, z⟩)
        · exact h2 k (by omega) pk
      · rcases h3 with h3 | ⟨k, hk, pk, e⟩
        · exact Or.inl h3
        · exact Or.inr ⟨k, by omega, pk, e⟩
theorem hz_mn_eq {p : Nat → Bool} {v : Nat → Nat} {b n x : Nat} (h1 : x ≤ b) (h2 : ∀ k, k < n → p k = true → x ≤ v k) (h3 : x = b ∨ ∃ k, k < n ∧ p k = true ∧ x = v k) : hz_mn p v b n = x := by
  obtain ⟨q1, q2, q3⟩ := hz_mn_is p v b n
  apply Nat.le_antisymm
  · rcases h3 with h3 | ⟨k, hk, pk, e⟩
    · rw [h3]; exact q1
    · rw [e]; exact q2 k hk pk
  · rcases q3 with q3 | ⟨k, hk, pk, e⟩
    · rw [q3]; exact h1
    · rw [e]; exact h2 k hk pk
def hz_lcst (st : hz_St) (a b : Nat) : Nat := hz_ns (hz_lost st.2.1 (hz_force st) (nI a) (nI b)) (hz_pr st) st.1
theorem hz_lcst_le {st : hz_St} (hok : hz_okS st) {a b k : Nat} (hf : hz_fit a b k = true) : hz_lcst st a b ≤ hz_cost st k := by
  refine hz_ns_le (fun i hi y => ?_)
  obtain ⟨⟨l, e, hl, he, hL, hE, -, -⟩, -, -⟩ := hok.2.2 i hi
  unfold hz_lost at y
  rw [hL, hE, Bool.and_eq_true, hz_force_bit st hi] at y
  have y2 := (hz_lostAll_t hl he).mp y.2
  have y1 : decide (st.2.1 i 4 ≤ st.2.2.2.1) = true := y.1
  unfold hz_brk
  rw [y1, hL, hE, (hz_hold_f hl he).mpr (fun j hj => by
    have f := hz_fit_iff.mp hf j hj
    have q := y2 j hj
    revert f q
    cases l.testBit j <;> cases e.testBit j <;> cases a.testBit j <;> cases b.testBit j <;> cases k.testBit j <;> decide)]
  rfl
theorem hz_fit_self {a b : Nat} (h1 : ∀ i, i < 6 → (a.testBit i && b.testBit i) = false) : hz_fit a b a = true := hz_fit_iff.mpr (fun i hi => by
  have q1 := h1 i hi
  revert q1
  cases a.testBit i <;> cases b.testBit i <;> decide)
theorem hz_fit_only {a b k : Nat} (ha : a < 64) (hk : k < 64) (h2 : ∀ i, i < 6 → (a.testBit i || b.testBit i) = true) (h1 : ∀ i, i < 6 → (a.testBit i && b.testBit i) = false) (z : hz_fit a b k = true) : k = a := by
  apply Nat.eq_of_testBit_eq
  intro i
  by_cases hi : i < 6
  · have f := hz_fit_iff.mp z i hi
    have q1 := h1 i hi
    have q2 := h2 i hi
    revert f q1 q2
    cases a.testBit i <;> cases b.testBit i <;> cases k.testBit i <;> decide
  · rw [hz_bit6 ha hi, hz_bit6 hk hi]
theorem hz_lcst_end {st : hz_St} (hok : hz_okS st) {a b : Nat} (h2 : ∀ i, i < 6 → (a.testBit i || b.testBit i) = true) (h1 : ∀ i, i < 6 → (a.testBit i && b.testBit i) = false) : hz_lcst st a b = hz_cost st a := by
  apply Nat.le_antisymm (hz_lcst_le hok (hz_fit_self h1))
  refine hz_ns_le (fun i hi y => ?_)
  obtain ⟨⟨l, e, hl, he, hL, hE, -, -⟩, -, -⟩ := hok.2.2 i hi
  unfold hz_brk at y
  rw [hL, hE, Bool.and_eq_true] at y
  unfold hz_lost
  have y1 : hz_inF st.2.1 st.2.2.2.1 i = true := y.1
  rw [hz_force_bit st hi, y1, hL, hE, (hz_lostAll_t hl he).mpr (fun j hj => ?_)]
  · rfl
  · have cg : hz_hold (nI l) (nI e) (nI a) = false := by
      cases c : hz_hold (nI l) (nI e) (nI a) with
      | false => rfl
      | true => rw [c] at y; exact absurd y.2 (by decide)
    have f := (hz_hold_f hl he).mp cg j hj
    have q2 := h2 j hj
    revert f q2
    cases l.testBit j <;> cases e.testBit j <;> cases a.testBit j <;> cases b.testBit j <;> decide
theorem x_sc (d : Nat) (h : hq_H) (st : hz_St) (H : hz_HC h 0 st) (hok : hz_okS st) : ∀ m r a b kn, r + m = 6 → a < 64 → b < 64 → kn ≤ 1000 → (∀ i, i < 6 → (a.testBit i && b.testBit i) = false) → (∀ i, i < r → (a.testBit i || b.testBit i) = true) → (∀ i, r ≤ i → a.testBit i = false ∧ b.testBit i = false) →
    hq_Met (d + m + 3) MX6_splitCheapest [.inr (0, 0), hz_i (nI (hz_force st)), hz_i (nI r), hz_i (nI a), hz_i (nI b), hz_i (nI kn)] h (hz_o (nI (hz_mn (hz_fit a b) (hz_cost st) kn 64))) h := by
  have n10 := hok.1
  have p10 := hz_p10 n10
  have F2 := hz_force_lt st
  have head : ∀ d a b, hq_Met (d + 2) MX0_pricesOf [.inr (0, 0), hz_i (nI (hz_mk (hz_lost st.2.1 (hz_force st) (nI a) (nI b)) st.1))] h (hz_o (nI (hz_lcst st a b))) h := by
    intro d a b
    have m := x_price d h st H n10 (S := hz_mk (hz_lost st.2.1 (hz_force st) (nI a) (nI b)) st.1) rfl (hz_mk31 _ n10)
    rw [hz_sum_mk, hz_ns_I (fun i hi => (hz_pr_is hok hi).1)] at m
    exact m
  intro m
  induction m with
  | zero =>
    intro r a b kn hr ha hb hk h1 h2 h3
    have hr6 : r = 6 := hr
    subst hr6
    have lc := hz_lcst_end hok h2 h1
    have l90 : hz_lcst st a b ≤ 90 := hz_cost_90 hok _
    refine inX6_splitCheapest (d + 2) 0 _ (nI 6) (nI a) (nI b) (nI kn) h _ _ (fun _ => trivial) (fun J b0 => b0 _ _ _ ?_)
    refine ⟨_, _, x_X0_rulesLost d 0 (hz_force st) (nI a) (nI b) h st.1 st.2.1 n10 (by omega) H.1 (fun k hk => (H.2.2.2.2.2 k hk).1), ?_⟩
    refine ⟨_, _, head d a b, ?_⟩
    refine hq_bt (hz_le (a := 6) (b := 6) rfl rfl (Nat.le_refl _) (by decide)) ?_
    refine ⟨hz_ri ?_, rfl⟩
    by_cases c : kn < hz_lcst st a b
    · rw [if_pos (nI_lt c (by omega))]
      exact congrArg nI (hz_mn_eq (Nat.le_refl _) (fun k hk z => by
        rw [hz_fit_only ha hk h2 h1 z, ← lc]
        omega) (Or.inl rfl))
    · rw [if_neg (nI_nlt (by omega) (by omega))]
      refine congrArg nI (hz_mn_eq (by omega) (fun k hk z => by
        rw [hz_fit_only ha hk h2 h1 z, ← lc]
        exact Nat.le_refl _) (Or.inr ⟨a, ha, hz_fit_self h1, lc⟩))
  | succ m ih =>
    intro r a b kn hr ha hb hk h1 h2 h3
    have r6 : r < 6 := by omega
    have l90 : hz_lcst st a b ≤ 90 := hz_cost_90 hok _
    have e1 : nI r + 1 = nI (r + 1) := (nI_succ r).symm
    have e2 : (1 : Int32) <<< (nI r &&& 31) = nI (2 ^ r) := hz_pw (by omega)
    have p6 : 2 ^ r < 64 := show 2 ^ r < 2 ^ 6 from Nat.pow_lt_pow_right (by decide) r6
    show hq_Met (d + m + 3 + 1) MX6_splitCheapest _ h _ h
    refine inX6_splitCheapest (d + m + 3) 0 _ (nI r) (nI a) (nI b) (nI kn) h _ _ (fun _ => trivial) (fun J b0 => b0 _ _ _ ?_)
    refine ⟨_, _, x_X0_rulesLost (d + m + 1) 0 (hz_force st) (nI a) (nI b) h st.1 st.2.1 n10 (by omega) H.1 (fun k hk => (H.2.2.2.2.2 k hk).1), ?_⟩
    refine ⟨_, _, head (d + m + 1) a b, ?_⟩
    refine hq_bf (hz_nle (a := 6) (b := r) rfl rfl r6 (by decide)) ?_
    by_cases c : hz_lcst st a b < kn
    · refine hq_bt (nI_lt c (by omega)) ?_
      obtain ⟨za, zb⟩ := h3 r (Nat.le_refl _)
      have tq : ∀ x i : Nat, (x ||| 2 ^ r).testBit i = (x.testBit i || decide (r = i)) := fun x i => by rw [Nat.testBit_or, Nat.testBit_two_pow]
      have q1 := hz_mn_is (hz_fit a (b ||| 2 ^ r)) (hz_cost st) kn 64
      have i1 := ih (r + 1) a (b ||| 2 ^ r) kn (by omega) ha (Nat.or_lt_two_pow (n := 6) hb p6) hk (fun i hi => by
        have q := h1 i hi
        rw [tq]
        by_cases e : r = i
        · subst e
          rw [za]
          rfl
        · rw [decide_eq_false e, Bool.or_false]
          exact q) (fun i hi => by
        rw [tq]
        by_cases e : r = i
        · rw [decide_eq_true e, Bool.or_true, Bool.or_true]
        · rw [decide_eq_false e, Bool.or_false]
          exact h2 i (by omega)) (fun i hi => by
        obtain ⟨u, v⟩ := h3 i (by omega)
        rw [tq, u, v, decide_eq_false (by omega)]
        exact ⟨rfl, rfl⟩)
      have i2 := ih (r + 1) (a ||| 2 ^ r) b (hz_mn (hz_fit a (b ||| 2 ^ r)) (hz_cost st) kn 64) (by omega) (Nat.or_lt_two_pow (n := 6) ha p6) hb (by omega) (fun i hi => by
        have q := h1 i hi
        rw [tq]
        by_cases e : r = i
        · subst e
          rw [zb, Bool.and_false]
        · rw [decide_eq_false e, Bool.or_false]
          exact q) (fun i hi => by
        rw [tq]
        by_cases e : r = i
        · rw [decide_eq_true e, Bool.or_true]
          rfl
        · rw [decide_eq_false e, Bool.or_false]
          exact h2 i (by omega)) (fun i hi => by
        obtain ⟨u, v⟩ := h3 i (by omega)
        rw [tq, u, v, decide_eq_false (by omega)]
        exact ⟨rfl, rfl⟩)
      have fin : hz_mn (hz_fit (a ||| 2 ^ r) b) (hz_cost st) (hz_mn (hz_fit a (b ||| 2 ^ r)) (hz_cost st) kn 64) 64 = hz_mn (hz_fit a b) (hz_cost st) kn 64 := by
        obtain ⟨w1, w2, w3⟩ := hz_mn_is (hz_fit a b) (hz_cost st) kn 64
        obtain ⟨q1, q2, q3⟩ := q1
        have le1 : hz_mn (hz_fit a b) (hz_cost st) kn 64 ≤ hz_mn (hz_fit a (b ||| 2 ^ r)) (hz_cost st) kn 64 := by
          rcases q3 with q3 | ⟨k, hk, pk, e⟩
          · rw [q3]; exact w1
          · rw [e]
            refine w2 k hk ?_
            rw [(hz_fit_or r6 za zb).1, pk]
            rfl
        refine hz_mn_eq le1 (fun k hk pk => w2 k hk (by rw [(hz_fit_or r6 za zb).1, pk, Bool.or_true])) ?_
        rcases w3 with w3 | ⟨k, hk, pk, e⟩
        · exact Or.inl (by omega)
        · rw [(hz_fit_or r6 za zb).1, Bool.or_eq_true] at pk
          rcases pk with pk | pk
          · have := q2 k hk pk
            exact Or.inl (by omega)
          · exact Or.inr ⟨k, hk, pk, e⟩
      rw [← e1, ← hz_orN, ← e2] at i1 i2
      refine ⟨_, _, i1, _, _, i2, ?_⟩
      exact ⟨hz_ri (congrArg nI fin.symm), rfl⟩
    · refine hq_bf (nI_nlt (by omega) (by omega)) ?_
      refine ⟨hz_ri ?_, rfl⟩
      have e : hz_mn (hz_fit a b) (hz_cost st) kn 64 = kn := hz_mn_eq (Nat.le_refl _) (fun k hk z => by
        have := hz_lcst_le hok z
        omega) (Or.inl rfl)
      rw [e]
      by_cases c2 : kn < hz_lcst st a b
      · rw [if_pos (nI_lt c2 (by omega))]
      · rw [if_neg (nI_nlt (by omega) (by omega))]
        congr 1
        omega
theorem hz_chp_le (st : hz_St) : ∀ m, hz_chp st m ≤ m ∧ ∀ k, k ≤ m → hz_cost st (hz_chp st m) ≤ hz_cost st k
  | 0 => ⟨Nat.le_refl _, fun k hk => by
    have : k = 0 := by omega
    rw [this]
    exact Nat.le_refl _⟩
  | m + 1 => by
    obtain ⟨h1, h2⟩ := hz_chp_le st m
    rw [hz_chp_s]
    split
    · rename_i c
      refine ⟨Nat.le_refl _, fun k hk => ?_⟩
      by_cases e : k = m + 1
      · rw [e]; exact Nat.le_refl _
      · have := h2 k (by omega)
        omega
    · rename_i c
      refine ⟨by omega, fun k hk => ?_⟩
      by_cases e : k = m + 1
      · rw [e]; omega
      · exact h2 k (by omega)
theorem x_chn (d : Nat) (h : hq_H) (st : hz_St) (H : hz_HC h 0 st) (hok : hz_okS st) : hq_Met (d + 10) MX6_cheapestNight [.inr (3, 0)] h (hz_o (hz_night st.2.1 st.1 st.2.2.2.1 (nI (hz_chp st 63)))) h := by
  have n10 := hok.1
  have p10 := hz_p10 n10
  have F2 := hz_force_lt st
  have m2 := x_price (d + 7) h st H n10 (S := hz_force st) rfl (by omega)
  rw [hz_ns_I (fun i hi => (hz_pr_is hok hi).1)] at m2
  have l90 := hz_cost_90 hok (fun k => (hz_force st).testBit k)
  have m3 := x_sc d h st H hok 6 0 0 0 (hz_ns (fun k => (hz_force st).testBit k) (hz_pr st) st.1) rfl (by decide) (by decide) (by omega) (fun i _ => by rw [Nat.zero_testBit]; rfl) (fun i hi => absurd hi (Nat.not_lt_zero i)) (fun i _ => ⟨Nat.zero_testBit i, Nat.zero_testBit i⟩)
  obtain ⟨c1, c2⟩ := hz_chp_le st 63
  have fin : hz_mn (hz_fit 0 0) (hz_cost st) (hz_ns (fun k => (hz_force st).testBit k) (hz_pr st) st.1) 64 = hz_cost st (hz_chp st 63) := by
    refine hz_mn_eq (hz_ns_le (fun i hi y => ?_)) (fun k hk _ => c2 k (by omega)) (Or.inr ⟨_, by omega, hz_fit_00 _, rfl⟩)
    show (hz_force st).testBit i = true
    rw [hz_force_bit st hi]
    unfold hz_brk at y
    rw [Bool.and_eq_true] at y
    exact y.1
  rw [fin] at m3
  refine inX6_cheapestNight (d + 9) 0 h _ _ (fun _ => trivial) (fun J b0 => b0 _ _ _ ?_)
  refine ⟨_, _, x_force (d + 7) h st H n10 H.2.2.1, ?_⟩
  refine ⟨_, _, m2, ?_⟩
  refine ⟨_, _, m3, ?_⟩
  exact ⟨hz_ri (hz_cost_is hok _), rfl⟩
theorem t_cheapestNight (d : Nat) (h : hq_H) (w : hz_W) (H : hz_RC h w) : hz_Ans MX6_cheapestNight (d + 10) [.inr (3, 0)] h (hz_o (hz_night w.1.2.1 w.1.1 w.1.2.2.2.1 (nI (hz_chp w.1 63))), w) := hz_same H (x_chn d h w.1 H.1 H.2.1)
