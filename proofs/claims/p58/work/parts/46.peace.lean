-- ===== the property's mathematics: peace, waivers, turns, clashes, costs =====
theorem hx_bk (st : hz_St) (k j : Nat) : (hz_broke st (nI k)).testBit j = (decide (j < st.1) && hz_brk st.2.1 st.2.2.2.1 (nI k) j) := hz_mk_bit _ _ _
theorem hx_dif0 {a b : Nat} : hz_dif a b = 0 ↔ ∀ i, a.testBit i = true → b.testBit i = true := by
  constructor
  · intro h i hi
    have q : (hz_dif a b).testBit i = false := by rw [h, Nat.zero_testBit]
    rw [hz_dif_bit, hi] at q
    revert q
    cases b.testBit i <;> decide
  · intro h
    apply Nat.eq_of_testBit_eq
    intro i
    rw [hz_dif_bit, Nat.zero_testBit]
    cases c : a.testBit i with
    | false => rfl
    | true =>
      rw [h i c]
      rfl
theorem hx_st (st : hz_St) (S : Nat) : hz_stand st S = 0 ↔ ∀ k, k < 64 → hz_good st S k = false := by
  rw [hz_bl_z]
  exact ⟨fun h k hk => (hz_good_bl st S hk).symm.trans (h k hk), fun h k hk => (hz_good_bl st S hk).trans (h k hk)⟩
theorem hx_st1 (st : hz_St) (S : Nat) : (¬ hz_stand st S = 0) ↔ ∃ k, k < 64 ∧ hz_good st S k = true := by
  rw [hx_st]
  constructor
  · intro h
    by_cases c : ∃ k, k < 64 ∧ hz_good st S k = true
    · exact c
    · exact absurd (fun k hk => ts_nt (fun z => c ⟨k, hk, z⟩)) h
  · rintro ⟨k, hk, e⟩ h
    rw [h k hk] at e
    cases e
theorem hx_good {st : hz_St} {S k : Nat} : hz_good st S k = true ↔ ∀ i, i < st.1 → S.testBit i = true → hz_hold (st.2.1 i 0) (st.2.1 i 1) (nI k) = true := by
  unfold hz_good
  rw [hz_all_iff]
  refine forall_congr' (fun i => forall_congr' (fun hi => ?_))
  cases S.testBit i <;> simp
theorem hx_gd {st : hz_St} {S k : Nat} : hz_good st (hz_dif (hz_force st) S) k = true ↔ hz_dif (hz_broke st (nI k)) S = 0 := by
  rw [hx_good, hx_dif0]
  constructor
  · intro h i hi
    rw [hx_bk, Bool.and_eq_true, decide_eq_true_iff] at hi
    obtain ⟨il, hb⟩ := hi
    unfold hz_brk at hb
    rw [Bool.and_eq_true] at hb
    refine ts_nf (fun z => ?_)
    have q := h i il (by rw [hz_dif_bit, hz_force_bit st il, z]; unfold hz_inF; rw [hb.1]; rfl)
    rw [q] at hb
    exact absurd hb.2 (by decide)
  · intro h i il hi
    rw [hz_dif_bit, Bool.and_eq_true, hz_force_bit st il] at hi
    refine ts_nf (fun z => ?_)
    have q := h i (by rw [hx_bk, decide_eq_true il]; unfold hz_brk; unfold hz_inF at hi; rw [hi.1, z]; rfl)
    rw [q] at hi
    exact absurd hi.2 (by decide)
theorem hx_fr {st : hz_St} {S : Nat} : hz_fr st S = true ↔ hz_dif S (hz_force st) = 0 ∧ ∃ k, k < 64 ∧ hz_dif (hz_broke st (nI k)) S = 0 := by
  unfold hz_fr
  rw [Bool.and_eq_true, decide_eq_true_iff, Bool.not_eq_true', decide_eq_false_iff_not, hx_st1]
  exact and_congr Iff.rfl (exists_congr (fun k => and_congr Iff.rfl hx_gd))
theorem hx_few (st : hz_St) : ∀ K, (∃ k, k ≤ K ∧ hz_few st K = hz_broke st (nI k)) ∧ ∀ j, j ≤ K → hb_le (hz_few st K) (hz_broke st (nI j))
  | 0 => ⟨⟨0, Nat.le_refl _, rfl⟩, fun j hj => by
    have e : j = 0 := by omega
    rw [e]
    exact Or.inr ⟨rfl, Nat.le_refl _⟩⟩
  | K + 1 => by
    obtain ⟨⟨k, hk, e⟩, h⟩ := hx_few st K
    rw [hz_few_s]
    split
    · rename_i c
      refine ⟨⟨K + 1, Nat.le_refl _, rfl⟩, fun j hj => ?_⟩
      by_cases z : j = K + 1
      · rw [z]
        exact Or.inr ⟨rfl, Nat.le_refl _⟩
      · have q := h j (by omega)
        unfold hb_le at q ⊢
        omega
    · rename_i c
      refine ⟨⟨k, by omega, e⟩, fun j hj => ?_⟩
      by_cases z : j = K + 1
      · rw [z]
        unfold hb_le
        omega
      · exact h j (by omega)
theorem hx_bkF (st : hz_St) (k : Nat) : hz_dif (hz_broke st (nI k)) (hz_force st) = 0 := hx_dif0.mpr (fun i hi => by
  rw [hx_bk, Bool.and_eq_true, decide_eq_true_iff] at hi
  rw [hz_force_bit st hi.1]
  have q := hi.2
  unfold hz_brk at q
  rw [Bool.and_eq_true] at q
  exact q.1)
theorem hx_pc_mono {a b : Nat} (ha : a < 1024) (hb : b < 1024) (d : hz_dif a b = 0) : hz_pc a ≤ hz_pc b ∧ (hz_pc a = hz_pc b → a = b) := hb_pf 11 a b (by omega) (by omega) (hx_dif0.mp d)
theorem hx_few_best (st : hz_St) (hn : st.1 ≤ 10) : hb_best (hz_fr st) 0 (2 ^ st.1) (some (hz_few st 63)) := by
  obtain ⟨⟨k, hk, e⟩, h⟩ := hx_few st 63
  have p10 := hz_p10 hn
  refine ⟨hz_few_lt st 63, ?_, fun j _ hj pj => ?_⟩
  · rw [hx_fr, e]
    exact ⟨hx_bkF st k, k, by omega, hx_dif0.mpr (fun i hi => hi)⟩
  · obtain ⟨-, k2, hk2, d⟩ := hx_fr.mp pj
    have q := h k2 (by omega)
    have lb := hz_broke_lt st (nI k2)
    obtain ⟨m1, m2⟩ := hx_pc_mono (by omega) (by omega) d
    unfold hb_le at q ⊢
    by_cases z : hz_pc (hz_broke st (nI k2)) = hz_pc j
    · have := m2 z
      omega
    · omega
theorem hx_few_fws (st : hz_St) (hn : st.1 ≤ 10) : hz_few st 63 = hz_fws st := Option.some.inj (hb_uniq (hx_few_best st hn) (hb_fws st hn))
-- ===== turns =====
theorem hx_pf : ∀ f S, hz_pf f S ≤ f
  | 0, _ => Nat.le_refl _
  | f + 1, S => by
    have := hx_pf f (S / 2)
    show S % 2 + hz_pf f (S / 2) ≤ f + 1
    omega
theorem hx_pc (S : Nat) : hz_pc S ≤ 11 := hx_pf 11 S
theorem hx_tp (st : hz_St) : ∀ K, (hz_tp st K = -1 ∧ ∀ j, j < K → hz_pk st j = false) ∨ ∃ m, hz_tp st K = nI m ∧ m ≤ 11 ∧ (∃ j, j < K ∧ hz_pk st j = true ∧ hz_pc (j ^^^ hz_g st) = m) ∧ ∀ j, j < K → hz_pk st j = true → m ≤ hz_pc (j ^^^ hz_g st)
  | 0 => Or.inl ⟨rfl, fun j hj => absurd hj (Nat.not_lt_zero j)⟩
  | K + 1 => by
    have ih := hx_tp st K
    have b := hx_pc (K ^^^ hz_g st)
    rw [hz_tp_s]
    by_cases c : hz_pk st K = true
    · rcases ih with ⟨e, h⟩ | ⟨m, e, hm, ⟨j, hj, p1, p2⟩, h⟩
      · rw [if_pos ⟨c, Or.inl e⟩]
        refine Or.inr ⟨_, rfl, b, ⟨K, Nat.lt_succ_self K, c, rfl⟩, fun i hi pi => ?_⟩
        by_cases z : i = K
        · rw [z]
          exact Nat.le_refl _
        · rw [h i (by omega)] at pi
          cases pi
      · by_cases l : hz_pc (K ^^^ hz_g st) < m
        · rw [if_pos ⟨c, Or.inr (by rw [e]; exact nI_lt l (by omega))⟩]
          refine Or.inr ⟨_, rfl, b, ⟨K, Nat.lt_succ_self K, c, rfl⟩, fun i hi pi => ?_⟩
          by_cases z : i = K
          · rw [z]
            exact Nat.le_refl _
          · have := h i (by omega) pi
            omega
        · rw [if_neg (fun z => by
            rcases z.2 with z | z
            · rw [e] at z
              exact hz_n1 (by omega) z
            · rw [e] at z
              exact nI_nlt (by omega) (by omega) z)]
          refine Or.inr ⟨m, e, hm, ⟨j, by omega, p1, p2⟩, fun i hi pi => ?_⟩
          by_cases z : i = K
          · rw [z]
            omega
          · exact h i (by omega) pi
    · rw [if_neg (fun z => c z.1)]
      rcases ih with ⟨e, h⟩ | ⟨m, e, hm, ⟨j, hj, p1, p2⟩, h⟩
      · refine Or.inl ⟨e, fun i hi => ?_⟩
        by_cases z : i = K
        · rw [z]
          exact ts_nt c
        · exact h i (by omega)
      · refine Or.inr ⟨m, e, hm, ⟨j, by omega, p1, p2⟩, fun i hi pi => ?_⟩
        by_cases z : i = K
        · rw [z] at pi
          exact absurd pi c
        · exact h i (by omega) pi
theorem hx_lo_first {p : Nat → Bool} {m : Nat} : ∀ n s, s ≤ m → m < s + n → p m = true → (∀ t, s ≤ t → t < m → p t = false) → hz_lo p n s = nI m
  | 0, s, h1, h2, _, _ => absurd h2 (by omega)
  | n + 1, s, h1, h2, h3, h4 => by
    by_cases z : s = m
    · subst z
      exact hz_lo_y h3
    · rw [hz_lo_n (h4 s (Nat.le_refl _) (by omega))]
      exact hx_lo_first n (s + 1) (by omega) (by omega) h3 (fun t a b => h4 t (by omega) b)
theorem hx_lo_none {p : Nat → Bool} : ∀ n s, (∀ t, s ≤ t → t < s + n → p t = false) → hz_lo p n s = -1
  | 0, _, _ => rfl
  | n + 1, s, h => by
    rw [hz_lo_n (h s (Nat.le_refl _) (by omega))]
    exact hx_lo_none n (s + 1) (fun t a b => h t (by omega) (by omega))
theorem hx_lo {p : Nat → Bool} : ∀ n s, hz_lo p n s = -1 ∨ ∃ i, s ≤ i ∧ i < s + n ∧ hz_lo p n s = nI i ∧ p i = true
  | 0, _ => Or.inl rfl
  | n + 1, s => by
    cases c : p s with
    | true => exact Or.inr ⟨s, Nat.le_refl _, by omega, hz_lo_y c, c⟩
    | false =>
      rw [hz_lo_n c]
      rcases hx_lo (p := p) n (s + 1) with e | ⟨i, a, b, e, pi⟩
      · exact Or.inl e
      · exact Or.inr ⟨i, by omega, by omega, e, pi⟩
theorem hx_at {st : hz_St} {t : Nat} : hz_at st t = true ↔ ∃ k, k < 64 ∧ hz_pk st k = true ∧ hz_pc (k ^^^ hz_g st) = t := by
  unfold hz_at
  rw [hz_any_iff]
  refine exists_congr (fun k => and_congr Iff.rfl ?_)
  rw [Bool.and_eq_true, decide_eq_true_iff]
theorem hx_tp_tg {st : hz_St} (hok : hz_okS st) : hz_tp st 64 = hz_tg st := by
  obtain ⟨-, g2⟩ := hz_g_is hok
  rcases hx_tp st 64 with ⟨e, h⟩ | ⟨m, e, hm, ⟨j, hj, p1, p2⟩, h⟩
  · rw [e]
    exact (hx_lo_none 7 0 (fun t _ _ => ts_nt (fun z => by
      obtain ⟨k, hk, a, _⟩ := hx_at.mp z
      rw [h k hk] at a
      cases a))).symm
  · rw [e]
    have l6 := hb_pc_le 6 (by decide) (j ^^^ hz_g st) (Nat.xor_lt_two_pow (n := 6) hj g2)
    refine (hx_lo_first 7 0 (Nat.zero_le _) (by omega) (hx_at.mpr ⟨j, hj, p1, p2⟩) (fun t _ ht => ts_nt (fun z => ?_))).symm
    obtain ⟨k, hk, a, b⟩ := hx_at.mp z
    have := h k hk a
    omega
-- ===== peace =====
def hx_P (st : hz_St) : Prop := ∃ k, k < 64 ∧ hz_pk st k = true
theorem hx_many (st : hz_St) : 0 < hz_many st ↔ hx_P st := by
  constructor
  · intro h
    by_cases c : hx_P st
    · exact c
    · have : hz_many st = 0 := hz_cnt_0 (fun k hk => ts_nt (fun z => c ⟨k, hk, z⟩))
      omega
  · rintro ⟨k, hk, e⟩
    apply Nat.pos_of_ne_zero
    intro z
    rw [hz_cnt_z z k hk] at e
    cases e
theorem hx_many_64 (st : hz_St) : hz_many st ≤ 64 := hz_cnt_le _ _
theorem hx_standF (st : hz_St) : hz_stand st (hz_force st) = 0 ↔ ¬ hx_P st := by
  rw [hx_st]
  constructor
  · rintro h ⟨k, hk, e⟩
    rw [← hz_good_force st hk, h k hk] at e
    cases e
  · intro h k hk
    rw [hz_good_force st hk]
    exact ts_nt (fun z => h ⟨k, hk, z⟩)
theorem hx_mono {st : hz_St} {S T : Nat} (d : hz_dif T S = 0) (h : hz_stand st T = 0) : hz_stand st S = 0 := by
  rw [hx_st] at h ⊢
  intro k hk
  refine ts_nt (fun z => ?_)
  have q : hz_good st T k = true := hx_good.mpr (fun i hi t => hx_good.mp z i hi (hx_dif0.mp d i t))
  rw [h k hk] at q
  cases q
theorem hx_difself (a : Nat) : hz_dif a a = 0 := hx_dif0.mpr (fun _ h => h)
theorem hx_clF {st : hz_St} (h : ¬ hx_P st) : hz_cl st (hz_force st) = true := by
  unfold hz_cl
  rw [hx_difself, (hx_standF st).mpr h]
  rfl
theorem hx_cl {st : hz_St} {S : Nat} : hz_cl st S = true ↔ hz_dif S (hz_force st) = 0 ∧ hz_stand st S = 0 := by
  unfold hz_cl
  rw [Bool.and_eq_true, decide_eq_true_iff, decide_eq_true_iff]
theorem hx_cl_P {st : hz_St} {S : Nat} (h : hz_cl st S = true) : ¬ hx_P st := by
  obtain ⟨a, b⟩ := hx_cl.mp h
  exact (hx_standF st).mp (hx_mono a b)
theorem hx_small_p {st : hz_St} (h : hx_P st) : hz_small st = -1 := by
  have b := hb_asc (hz_cl st) (2 ^ st.1)
  unfold hz_small
  cases e : hz_asc (hz_cl st) (2 ^ st.1) with
  | none => rfl
  | some c =>
    rw [e] at b
    exact absurd h (hx_cl_P b.2.1)
theorem hx_small_n {st : hz_St} (h : ¬ hx_P st) : ∃ c, c < 2 ^ st.1 ∧ hz_small st = nI c ∧ hz_cl st c = true ∧ ∀ j, j < 2 ^ st.1 → hz_cl st j = true → hb_le c j := by
  have b := hb_asc (hz_cl st) (2 ^ st.1)
  unfold hz_small
  cases e : hz_asc (hz_cl st) (2 ^ st.1) with
  | none =>
    rw [e] at b
    have q := b (hz_force st) (Nat.zero_le _) (hz_force_lt st)
    rw [hx_clF h] at q
    cases q
  | some c =>
    rw [e] at b
    exact ⟨c, b.1, rfl, b.2.1, fun j hj pj => b.2.2 j (Nat.zero_le _) hj pj⟩
theorem hx_nar (st : hz_St) : ∀ m K, K < 2 ^ st.1 → hz_stand st K = 0 → hz_nar st m K < 2 ^ st.1 ∧ hz_stand st (hz_nar st m K) = 0
  | 0, K, h1, h2 => ⟨h1, h2⟩
  | r + 1, K, h1, h2 => by
    show hz_nar st r (if hz_stand st (hz_dif K (2 ^ r)) = 0 then hz_dif K (2 ^ r) else K) < 2 ^ st.1 ∧ hz_stand st (hz_nar st r (if hz_stand st (hz_dif K (2 ^ r)) = 0 then hz_dif K (2 ^ r) else K)) = 0
    by_cases c : hz_stand st (hz_dif K (2 ^ r)) = 0
    · rw [if_pos c]
      exact hx_nar st r _ (hz_dif_lt _ h1) c
    · rw [if_neg c]
      exact hx_nar st r _ h1 h2
theorem hx_narrowed_p {st : hz_St} (h : hx_P st) : hz_narrowed st = -1 := if_neg (fun z => (hx_standF st).mp z h)
theorem hx_narrowed_n {st : hz_St} (h : ¬ hx_P st) : ∃ r, r < 2 ^ st.1 ∧ hz_narrowed st = nI r ∧ hz_stand st r = 0 := by
  have z := (hx_standF st).mpr h
  obtain ⟨a, b⟩ := hx_nar st 10 (hz_force st) (hz_force_lt st) z
  exact ⟨_, a, if_pos z, b⟩
theorem hx_ncs_P {st : hz_St} {S : Nat} (h : hz_ncs st S = true) : ¬ hx_P st := by
  unfold hz_ncs hz_nc1 at h
  rw [Bool.and_eq_true, Bool.and_eq_true, decide_eq_true_iff, decide_eq_true_iff] at h
  exact (hx_standF st).mp (hx_mono h.1 h.2.1)
theorem hx_narrows_p {st : hz_St} (h : hx_P st) : hz_narrows st = 0 := hz_cnt_0 (fun k _ => ts_nt (fun z => hx_ncs_P z h))
theorem hx_narrows_le (st : hz_St) : hz_narrows st ≤ 2 ^ st.1 := hz_cnt_le _ _
theorem hx_narrows_n {st : hz_St} (hn : st.1 ≤ 10) (h : ¬ hx_P st) : 0 < hz_narrows st := by
  have p10 := hz_p10 hn
  obtain ⟨c, hc, -, cl, least⟩ := hx_small_n h
  obtain ⟨c1, c2⟩ := hx_cl.mp cl
  apply Nat.pos_of_ne_zero
  intro z
  have q := hz_cnt_z z c hc
  have y : hz_ncs st c = true := by
    unfold hz_ncs hz_nc1
    rw [c1, c2]
    refine hz_all_iff.mpr (fun i _ => ?_)
    cases t : c.testBit i with
    | false => rfl
    | true =>
      have n0 : ¬ hz_stand st (hz_dif c (2 ^ i)) = 0 := by
        intro s0
        have sub : hz_dif (hz_dif c (2 ^ i)) c = 0 := hx_dif0.mpr (fun j hj => by
          rw [hz_dif_bit, Bool.and_eq_true] at hj
          exact hj.1)
        have ld : hz_dif c (2 ^ i) < 2 ^ st.1 := hz_dif_lt _ hc
        have cl2 : hz_cl st (hz_dif c (2 ^ i)) = true := hx_cl.mpr ⟨hx_dif0.mpr (fun j hj => hx_dif0.mp c1 j (hx_dif0.mp sub j hj)), s0⟩
        have l := least _ ld cl2
        obtain ⟨m1, m2⟩ := hx_pc_mono (by omega) (by omega) sub
        have ne : hz_dif c (2 ^ i) ≠ c := fun y => by
          have b : (hz_dif c (2 ^ i)).testBit i = true := by rw [y, t]
          rw [hz_dif_bit, Nat.testBit_two_pow_self, t] at b
          exact absurd b (by decide)
        have lt : hz_dif c (2 ^ i) ≤ c := hz_dif_sub sub
        unfold hb_le at l
        by_cases e : hz_pc (hz_dif c (2 ^ i)) = hz_pc c
        · exact ne (m2 e)
        · omega
      rw [decide_eq_false n0]
      rfl
  rw [y] at q
  cases q
theorem hx_few_p {st : hz_St} (hn : st.1 ≤ 10) (h : hx_P st) : hz_few st 63 = 0 := by
  have p10 := hz_p10 hn
  obtain ⟨k, hk, e⟩ := h
  have e : hz_broke st (nI k) = 0 := of_decide_eq_true e
  have q := (hx_few st 63).2 k (by omega)
  rw [e] at q
  have l := hz_few_lt st 63
  have z : hz_pc 0 = 0 := rfl
  unfold hb_le at q
  omega
theorem hx_few_n {st : hz_St} (h : ¬ hx_P st) : hz_few st 63 ≠ 0 := by
  obtain ⟨k, hk, e⟩ := (hx_few st 63).1
  intro z
  rw [e] at z
  exact h ⟨k, by omega, decide_eq_true z⟩
theorem hx_few_st (st : hz_St) (hn : st.1 ≤ 10) : ¬ hz_stand st (hz_dif (hz_force st) (hz_few st 63)) = 0 := by
  have q := (hx_few_best st hn).2.1
  unfold hz_fr at q
  rw [Bool.and_eq_true, Bool.not_eq_true', decide_eq_false_iff_not] at q
  exact q.2
theorem hx_pk_g {st : hz_St} (hok : hz_okS st) : hz_pk st (hz_g st) = true ↔ hz_broke st st.2.2.1 = 0 := by
  unfold hz_pk
  rw [decide_eq_true_iff, ← (hz_g_is hok).1]
theorem hx_tp_p {st : hz_St} (hok : hz_okS st) (h : hx_P st) : ∃ m, m ≤ 11 ∧ hz_tp st 64 = nI m ∧ (m = 0 ↔ hz_broke st st.2.2.1 = 0) := by
  obtain ⟨k, hk, e⟩ := h
  obtain ⟨-, g2⟩ := hz_g_is hok
  rcases hx_tp st 64 with ⟨_, y⟩ | ⟨m, e1, hm, ⟨j, hj, p1, p2⟩, y⟩
  · rw [y k hk] at e
    cases e
  · refine ⟨m, hm, e1, ?_⟩
    rw [← hx_pk_g hok]
    constructor
    · intro z
      have x0 := hz_pc_z (j ^^^ hz_g st) (Nat.xor_lt_two_pow (n := 6) hj g2) (by omega)
      have : j ^^^ hz_g st ^^^ hz_g st = 0 ^^^ hz_g st := by rw [x0]
      rw [Nat.xor_assoc, Nat.xor_self, Nat.xor_zero, Nat.zero_xor] at this
      rw [← this]
      exact p1
    · intro z
      have q := y (hz_g st) g2 z
      rw [Nat.xor_self] at q
      have z0 : hz_pc 0 = 0 := rfl
      omega
theorem hx_tp_n {st : hz_St} (h : ¬ hx_P st) : hz_tp st 64 = -1 := by
  rcases hx_tp st 64 with ⟨e, _⟩ | ⟨m, e1, hm, ⟨j, hj, p1, p2⟩, y⟩
  · exact e
  · exact absurd ⟨j, hj, p1⟩ h
theorem hx_broke_n {st : hz_St} (hok : hz_okS st) (h : ¬ hx_P st) : hz_broke st st.2.2.1 ≠ 0 := fun z => h ⟨hz_g st, (hz_g_is hok).2, (hx_pk_g hok).mpr z⟩
-- ===== costs =====
theorem hx_ns0 {p : Nat → Bool} {v : Nat → Nat} : ∀ {n : Nat}, (∀ i, i < n → 1 ≤ v i) → (hz_ns p v n = 0 ↔ ∀ i, i < n → p i = false)
  | 0, _ => ⟨fun _ i hi => absurd hi (Nat.not_lt_zero i), fun _ => rfl⟩
  | n + 1, h => by
    have ih := hx_ns0 (p := p) (v := v) (n := n) (fun i hi => h i (by omega))
    have h1 := h n (by omega)
    rw [hz_ns_s]
    constructor
    · intro z i hi
      by_cases e : i = n
      · subst e
        refine ts_nt (fun c => ?_)
        rw [if_pos c] at z
        omega
      · exact ih.mp (by omega) i (by omega)
    · intro z
      rw [ih.mpr (fun i hi => z i (by omega)), z n (by omega)]
      rfl
theorem hx_pr1 {st : hz_St} (hok : hz_okS st) {i : Nat} (hi : i < st.1) : 1 ≤ hz_pr st i := by
  obtain ⟨-, ⟨p, hp1, hp9, hp⟩, -⟩ := hok.2.2 i hi
  unfold hz_pr
  rw [hp, nI_clamp (by omega)]
  exact hp1
theorem hx_cost0 {st : hz_St} (hok : hz_okS st) (k : Nat) : hz_cost st k = 0 ↔ hz_broke st (nI k) = 0 := by
  unfold hz_cost
  rw [hx_ns0 (fun i hi => hx_pr1 hok hi)]
  exact hz_mk_0.symm
theorem hx_chp0 {st : hz_St} (hok : hz_okS st) : hz_cost st (hz_chp st 63) = 0 ↔ hx_P st := by
  obtain ⟨c1, c2⟩ := hz_chp_le st 63
  constructor
  · intro z
    exact ⟨hz_chp st 63, by omega, decide_eq_true ((hx_cost0 hok _).mp z)⟩
  · rintro ⟨k, hk, e⟩
    have q := c2 k (by omega)
    have z := (hx_cost0 hok k).mpr (of_decide_eq_true e)
    omega
theorem hx_chp_g {st : hz_St} (hok : hz_okS st) : hz_cost st (hz_chp st 63) ≤ hz_cost st (hz_g st) := (hz_chp_le st 63).2 _ (by have := (hz_g_is hok).2; omega)
theorem hx_night {st : hz_St} (hok : hz_okS st) : hz_night st.2.1 st.1 st.2.2.2.1 st.2.2.1 = nI (hz_cost st (hz_g st)) := by
  have q := hz_cost_is hok (hz_g st)
  rw [← (hz_g_is hok).1] at q
  exact q
theorem hx_cost90 {st : hz_St} (hok : hz_okS st) (k : Nat) : hz_cost st k ≤ 90 := hz_cost_90 hok _
theorem hx_turn {st : hz_St} (hok : hz_okS st) {q : Nat} (hq : q < 6) : st.2.2.1 ^^^ ((1 : Int32) <<< (nI q &&& 31)) = nI (hz_g st ^^^ 2 ^ q) ∧ hz_g st ^^^ 2 ^ q < 64 := by
  obtain ⟨g1, g2⟩ := hz_g_is hok
  refine ⟨?_, Nat.xor_lt_two_pow (n := 6) g2 (hz_pw64 hq)⟩
  rw [g1, hz_pw (by omega), hz_xorN]
theorem hx_bt {st : hz_St} (hok : hz_okS st) : ∀ K, K ≤ 6 → ∃ c, c ≤ hz_cost st (hz_g st) ∧ (hz_bt st K).2 = nI c ∧ ((hz_bt st K).1 = -1 ∨ ∃ q, q < 6 ∧ (hz_bt st K).1 = nI q ∧ hz_rfs st (nI q) = -1 ∧ c < hz_cost st (hz_g st))
  | 0, _ => ⟨_, Nat.le_refl _, hx_night hok, Or.inl rfl⟩
  | K + 1, hK => by
    obtain ⟨c, h1, h2, h3⟩ := hx_bt hok K (by omega)
    obtain ⟨t1, t2⟩ := hx_turn hok (q := K) (by omega)
    have n1 := hz_cost_is hok (hz_g st ^^^ 2 ^ K)
    have b1 := hx_cost90 hok (hz_g st ^^^ 2 ^ K)
    have b2 := hx_cost90 hok (hz_g st)
    rw [← t1] at n1
    rw [hz_bt_s]
    split
    · rename_i z
      rw [n1, h2] at z
      have l : hz_cost st (hz_g st ^^^ 2 ^ K) < c := Nat.lt_of_not_le (fun y => nI_nlt y (by omega) z.1)
      refine ⟨hz_cost st (hz_g st ^^^ 2 ^ K), by omega, n1, Or.inr ⟨K, by omega, rfl, z.2, by omega⟩⟩
    · exact ⟨c, h1, h2, h3⟩
theorem hx_rfs (st : hz_St) (x : Int32) : hz_rfs st x = -1 ∨ ∃ i, i < st.1 ∧ hz_rfs st x = nI i ∧ hz_ref st.2.1 st.2.2.2.1 st.2.2.1 (st.2.2.1 ^^^ ((1 : Int32) <<< (x &&& 31))) i = true := by
  rcases hx_lo (p := hz_ref st.2.1 st.2.2.2.1 st.2.2.1 (st.2.2.1 ^^^ ((1 : Int32) <<< (x &&& 31)))) st.1 0 with e | ⟨i, -, a, e, p⟩
  · exact Or.inl e
  · exact Or.inr ⟨i, by omega, e, p⟩
theorem hx_com (st : hz_St) (q : Nat) : hz_com st q = -1 ↔ ¬ hx_P st := by
  have key : (hz_any (fun k => hz_pk st k && k.testBit q) 64 = true ∨ hz_any (fun k => hz_pk st k && !k.testBit q) 64 = true) ↔ hx_P st := by
    rw [hz_any_iff, hz_any_iff]
    constructor
    · rintro (⟨k, hk, e⟩ | ⟨k, hk, e⟩)
      · rw [Bool.and_eq_true] at e
        exact ⟨k, hk, e.1⟩
      · rw [Bool.and_eq_true] at e
        exact ⟨k, hk, e.1⟩
    · rintro ⟨k, hk, e⟩
      cases t : k.testBit q with
      | true => exact Or.inl ⟨k, hk, by rw [e, t]; rfl⟩
      | false => exact Or.inr ⟨k, hk, by rw [e, t]; rfl⟩
  rw [← key]
  unfold hz_com
  cases hz_any (fun k => hz_pk st k && k.testBit q) 64 <;> cases hz_any (fun k => hz_pk st k && !k.testBit q) 64 <;> decide
