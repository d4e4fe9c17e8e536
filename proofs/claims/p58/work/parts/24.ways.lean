/-- nothing is broken in a way -/
def hz_pk (st : hz_St) (k : Nat) : Bool := decide (hz_broke st (nI k) = 0)
def hz_many (st : hz_St) : Nat := hz_cnt (hz_pk st) 64
theorem hz_good_bl (st : hz_St) (S : Nat) {k : Nat} (hk : k < 64) : hz_bl (hz_stand st S) k = hz_good st S k := hz_bl_stand st S hk
theorem hz_stand_force (st : hz_St) : hz_stand st (hz_force st) = hz_peace st.2.1 st.1 st.2.2.2.1 := hz_and_mk
theorem hz_good_force (st : hz_St) {k : Nat} (hk : k < 64) : hz_good st (hz_force st) k = hz_pk st k := by
  rw [← hz_good_bl st _ hk, hz_stand_force, hz_bl_peace st hk]
  rfl
theorem hz_fit_00 (k : Nat) : hz_fit 0 0 k = true := hz_fit_iff.mpr (fun i _ => by rw [Nat.zero_testBit]; rfl)
theorem hz_ways_00 (st : hz_St) (S : Nat) : hz_ways st S 0 0 = hz_cnt (hz_good st S) 64 := hz_cnt_cong (fun k _ => by rw [hz_fit_00, Bool.true_and])
theorem hz_ways_force (st : hz_St) : hz_ways st (hz_force st) 0 0 = hz_many st := by
  rw [hz_ways_00]
  exact hz_cnt_cong (fun k hk => hz_good_force st hk)
theorem hz_cnt_z {p : Nat → Bool} : ∀ {n : Nat}, hz_cnt p n = 0 → ∀ k, k < n → p k = false
  | 0, _, k, hk => absurd hk (Nat.not_lt_zero k)
  | n + 1, h, k, hk => by
    have h : hz_cnt p n + (if p n = true then 1 else 0) = 0 := h
    by_cases e : k = n
    · subst e
      cases c : p k with
      | false => rfl
      | true => rw [if_pos c] at h; omega
    · exact hz_cnt_z (n := n) (by omega) k (by omega)
theorem hz_stand_z (st : hz_St) (S : Nat) : hz_stand st S = 0 ↔ hz_cnt (hz_good st S) 64 = 0 := by
  rw [hz_bl_z]
  constructor
  · intro h
    exact hz_cnt_0 (fun k hk => by rw [← hz_good_bl st S hk]; exact h k hk)
  · intro h k hk
    rw [hz_good_bl st S hk]
    exact hz_cnt_z h k hk
theorem x_count (d : Nat) (h : hq_H) (st : hz_St) (H : hz_HC h 0 st) (hn : st.1 ≤ 10) : hq_Met (d + 4) MX6_countWays [.inr (3, 0)] h (hz_o (nI (hz_many st))) h := by
  refine inX6_countWays (d + 3) 0 h _ _ (fun _ => trivial) (fun J b0 => b0 _ _ _ ?_)
  refine ⟨_, _, x_peace d h st H hn, _, _, x_J13 (d + 2) _ h, ?_⟩
  exact ⟨hz_ri (congrArg nI (hz_cnt_cong (fun k hk => (hz_bl_peace st hk).symm))), rfl⟩
theorem t_ways (d : Nat) (h : hq_H) (w : hz_W) (H : hz_RC h w) : hz_Ans MX6_ways (d + 5) [.inr (3, 0)] h (hz_o (nI (hz_many w.1)), w) := by
  refine hz_same H (inX6_ways (d + 4) 0 h _ _ (fun _ => trivial) (fun J b0 => b0 _ _ _ ?_))
  exact ⟨_, _, x_count d h w.1 H.1 H.2.1.1, rfl, rfl⟩
theorem hz_force31 (st : hz_St) (hn : st.1 ≤ 10) : hz_force st < 2 ^ 31 := hz_mk31 _ hn
theorem x_split0 (d : Nat) (h : hq_H) (st : hz_St) (H : hz_HC h 0 st) (hok : hz_okS st) {x : Int32} {S : Nat} (hx : x = nI S) (hS : S < 2 ^ 31) : hq_Met (d + 9) MX6_splitWays [.inr (0, 0), hz_i x, hz_i 0, hz_i 0, hz_i 0] h (hz_o (nI (hz_cnt (hz_good st S) 64))) h := by
  subst hx
  rw [← hz_ways_00]
  exact x_split d h st H hok S hS 6 0 0 0 rfl (by decide) (by decide) (fun i _ => by rw [Nat.zero_testBit]; rfl) (fun i hi => absurd hi (Nat.not_lt_zero i))
theorem t_waysBySplitting (d : Nat) (h : hq_H) (w : hz_W) (H : hz_RC h w) : hz_Ans MX6_waysBySplitting (d + 10) [.inr (3, 0)] h (hz_o (nI (hz_many w.1)), w) := by
  refine hz_same H (inX6_waysBySplitting (d + 9) 0 h _ _ (fun _ => trivial) (fun J b0 => b0 _ _ _ ?_))
  refine ⟨_, _, x_force (d + 7) h w.1 H.1 H.2.1.1 H.1.2.2.1, ?_⟩
  refine ⟨_, _, x_split0 d h w.1 H.1 H.2.1 rfl (hz_force31 _ H.2.1.1), ?_⟩
  exact ⟨hz_ri (by rw [← hz_ways_00, hz_ways_force]), rfl⟩
theorem t_canStandBySplitting (d : Nat) (h : hq_H) (w : hz_W) (H : hz_RC h w) (x : Int32) : hz_Ans MX6_canStandBySplitting (d + 10) [.inr (3, 0), hz_i x] h (sp_set w x (fun S => hz_b (hz_nz (hz_stand w.1 S)))) := by
  have n10 := H.2.1.1
  unfold sp_set
  cases hx : hz_ix x (2 ^ w.1.1) with
  | none =>
    refine hz_same H (inX6_canStandBySplitting (d + 9) 0 x h _ _ (fun _ => trivial) (fun J b0 => b0 _ _ _ ?_))
    exact Or.inr ⟨_, x_X6_requireSet_n (d + 8) w.1.1 x h hx n10 H.1.1, rfl⟩
  | some S =>
    have p10 := hz_p10 n10
    obtain ⟨rfl, hS⟩ := hz_ix_s (by omega) hx
    refine hz_same H (inX6_canStandBySplitting (d + 9) 0 _ h _ _ (fun _ => trivial) (fun J b0 => b0 _ _ _ ?_))
    refine Or.inl ⟨_, x_X6_requireSet_y (d + 8) S w.1.1 h hS n10 H.1.1, ?_⟩
    refine ⟨_, _, x_split0 d h w.1 H.1 H.2.1 rfl (by omega), ?_⟩
    have l64 := hz_cnt_le (hz_good w.1 S) 64
    refine hq_bc (fun c => ?_) (fun c => ?_)
    · refine ⟨Or.inl rfl, hz_rf ?_, rfl⟩
      have z : hz_cnt (hz_good w.1 S) 64 = 0 := by
        by_cases z : hz_cnt (hz_good w.1 S) 64 = 0
        · exact z
        · exact absurd c (nI_nle (by omega) (by omega))
      unfold hz_nz
      rw [decide_eq_true ((hz_stand_z w.1 S).mpr z)]
      rfl
    · refine ⟨Or.inr rfl, hz_rb ?_, rfl⟩
      unfold hz_nz
      rw [decide_eq_false (fun z => c (by rw [(hz_stand_z w.1 S).mp z]; decide))]
      rfl
def hz_first (st : hz_St) : Int32 := hz_lo (hz_pk st) 64 0
/-- one below n at least -/
def hz_any (p : Nat → Bool) : Nat → Bool
  | 0 => false
  | k + 1 => hz_any p k || p k
def hz_cm (a b : Bool) : Int32 := match a, b with
  | true, true => 2
  | true, false => 1
  | false, true => 0
  | false, false => -1
def hz_com (st : hz_St) (q : Nat) : Int32 := hz_cm (hz_any (fun k => hz_pk st k && k.testBit q) 64) (hz_any (fun k => hz_pk st k && !k.testBit q) 64)
theorem x_com (d q : Nat) (h : hq_H) (st : hz_St) (H : hz_HC h 0 st) (hn : st.1 ≤ 10) (hq : q < 6) : hq_Met (d + 4) MX6_commonIn [.inr (3, 0), hz_i (nI q)] h (hz_o (hz_com st q)) h := by
  refine inX6_commonIn (d + 3) 0 (nI q) h _ _ (fun _ => trivial) (fun J b0 b17 b47 b64 => b0 _ _ _ ?_)
  refine ⟨_, _, x_peace d h st H hn, ?_⟩
  refine hq_up (P := fun k => ∀ v, J 17 [some (.inr (3, 0)), some (hz_i (nI q)), some (hz_l (hz_peace st.2.1 st.1 st.2.2.2.1)), none, some (hz_i (hz_b (hz_any (fun k => hz_pk st k && k.testBit q) k))), some (hz_i (hz_b (hz_any (fun k => hz_pk st k && !k.testBit q) k))), some (hz_i (nI k)), v] [] h) 64 (fun v => b17 _ _ _ ?_) (fun k hk ih v => b17 _ _ _ ?_) 0 (Nat.zero_le _) _
  · refine hq_bt (hz_le (a := 64) (b := 64) rfl rfl (Nat.le_refl _) (by decide)) ?_
    unfold hz_com
    generalize hz_any (fun k => hz_pk st k && k.testBit q) 64 = x
    generalize hz_any (fun k => hz_pk st k && !k.testBit q) 64 = y
    cases x with
    | true =>
      refine hq_bf (by decide) ?_
      cases y with
      | true => exact hq_bf (by decide) ⟨rfl, rfl⟩
      | false => exact hq_bt rfl ⟨rfl, rfl⟩
    | false =>
      refine hq_bt rfl ?_
      cases y with
      | true => exact hq_bf (by decide) ⟨rfl, rfl⟩
      | false => exact hq_bt rfl ⟨rfl, rfl⟩
  · refine hq_bf (hz_nle (a := 64) (b := k) rfl rfl hk (by decide)) ?_
    refine ⟨_, _, x_X6_hasWay (d + 2) k _ h hk, ?_⟩
    have eb := hz_bl_peace st hk
    have s1 : hz_any (fun k => hz_pk st k && k.testBit q) (k + 1) = (hz_any (fun k => hz_pk st k && k.testBit q) k || (hz_pk st k && k.testBit q)) := rfl
    have s2 : hz_any (fun k => hz_pk st k && !k.testBit q) (k + 1) = (hz_any (fun k => hz_pk st k && !k.testBit q) k || (hz_pk st k && !k.testBit q)) := rfl
    rw [s1, s2, nI_succ] at ih
    generalize hz_any (fun k => hz_pk st k && k.testBit q) k = x at ih ⊢
    generalize hz_any (fun k => hz_pk st k && !k.testBit q) k = y at ih ⊢
    cases c : hz_pk st k with
    | false =>
      rw [c, Bool.false_and, Bool.false_and, Bool.or_false, Bool.or_false] at ih
      have eb2 : hz_bl (hz_peace st.2.1 st.1 st.2.2.2.1) k = false := eb.trans c
      rw [eb2]
      exact hq_bt rfl (ih v)
    | true =>
      rw [c, Bool.true_and, Bool.true_and] at ih
      have eb2 : hz_bl (hz_peace st.2.1 st.1 st.2.2.2.1) k = true := eb.trans c
      rw [eb2]
      refine hq_bf (by decide) ?_
      cases t : k.testBit q with
      | false =>
        rw [t] at ih
        refine hq_bt (hz_bit0 (by omega) (by omega) t) (b47 _ _ _ ?_)
        have ih := ih (some (hz_i 0))
        cases x with
        | true =>
          refine hq_nt (by decide) (b64 _ _ _ ?_)
          cases y with
          | true => exact hq_nt (by decide) ih
          | false => exact hq_nf rfl (hq_nf rfl ih)
        | false =>
          refine hq_nf rfl (hq_bt rfl (b64 _ _ _ ?_))
          cases y with
          | true => exact hq_nt (by decide) ih
          | false => exact hq_nf rfl (hq_nf rfl ih)
      | true =>
        rw [t] at ih
        refine hq_bf (hz_bitn (by omega) (by omega) t) (b47 _ _ _ ?_)
        have ih := ih (some (hz_i 1))
        cases x with
        | true =>
          refine hq_nt (by decide) (b64 _ _ _ ?_)
          cases y with
          | true => exact hq_nt (by decide) ih
          | false => exact hq_nf rfl (hq_nt (by decide) ih)
        | false =>
          refine hq_nf rfl (hq_bf (by decide) (b64 _ _ _ ?_))
          cases y with
          | true => exact hq_nt (by decide) ih
          | false => exact hq_nf rfl (hq_nt (by decide) ih)
def sp_forced (w : hz_W) (x : Int32) : hz_X := match hz_ix x 6 with
  | none => (.inr hz_IOB, w)
  | some k => (hz_o (hz_com w.1 k), w)
theorem t_forced (d : Nat) (h : hq_H) (w : hz_W) (H : hz_RC h w) (x : Int32) : hz_Ans MX6_forced (d + 5) [.inr (3, 0), hz_i x] h (sp_forced w x) := by
  unfold sp_forced
  cases hx : hz_ix x 6 with
  | none =>
    refine hz_same H (inX6_forced (d + 4) 0 x h _ _ (fun _ => trivial) (fun J b0 => b0 _ _ _ ?_))
    exact Or.inr ⟨_, x_X6_requireRoom_n (d + 3) x h hx, rfl⟩
  | some k =>
    obtain ⟨rfl, hk⟩ := hz_ix_s (by omega) hx
    refine hz_same H (inX6_forced (d + 4) 0 _ h _ _ (fun _ => trivial) (fun J b0 => b0 _ _ _ ?_))
    refine Or.inl ⟨_, x_X6_requireRoom_y (d + 3) k h hk, ?_⟩
    exact ⟨_, _, x_com d k h w.1 H.1 H.2.1.1 hk, rfl, rfl⟩
-- ===== what follows =====
def hz_fol (st : hz_St) (i : Nat) : Bool := hz_inF st.2.1 st.2.2.2.1 i && hz_all (fun k => !decide (hz_broke st (nI k) = 2 ^ i)) 64
theorem hz_force_bit (st : hz_St) {i : Nat} (hi : i < st.1) : (hz_force st).testBit i = hz_inF st.2.1 st.2.2.2.1 i := by
  unfold hz_force
  rw [hz_mk_bit, decide_eq_true hi, Bool.true_and]
theorem hz_broke_one (st : hz_St) {i : Nat} (hi : i < st.1) (hf : hz_inF st.2.1 st.2.2.2.1 i = true) (k : Nat) : hz_broke st (nI k) = 2 ^ i ↔ hz_good st (hz_dif (hz_force st) (2 ^ i)) k = true ∧ hz_hold (st.2.1 i 0) (st.2.1 i 1) (nI k) = false := by
  have b1 : ∀ j, (hz_broke st (nI k)).testBit j = (decide (j < st.1) && hz_brk st.2.1 st.2.2.2.1 (nI k) j) := fun j => hz_mk_bit _ _ _
  constructor
  · intro h
    refine ⟨hz_all_iff.mpr (fun j hj => ?_), ?_⟩
    · rw [hz_dif_bit, hz_force_bit st hj, Nat.testBit_two_pow]
      have q := b1 j
      rw [h, decide_eq_true hj, Nat.testBit_two_pow] at q
      unfold hz_brk at q
      unfold hz_inF
      revert q
      cases decide (i = j) <;> cases decide (st.2.1 j 4 ≤ st.2.2.2.1) <;> cases hz_hold (st.2.1 j 0) (st.2.1 j 1) (nI k) <;> decide
    · have q := b1 i
      rw [h, decide_eq_true hi, Nat.testBit_two_pow, decide_eq_true rfl] at q
      unfold hz_brk at q
      revert q
      cases decide (st.2.1 i 4 ≤ st.2.2.2.1) <;> cases hz_hold (st.2.1 i 0) (st.2.1 i 1) (nI k) <;> decide
  · intro ⟨h1, h2⟩
    apply Nat.eq_of_testBit_eq
    intro j
    rw [b1, Nat.testBit_two_pow]
    by_cases hj : j < st.1
    · rw [decide_eq_true hj, Bool.true_and]
      have q := hz_all_iff.mp h1 j hj
      rw [hz_dif_bit, hz_force_bit st hj, Nat.testBit_two_pow] at q
      by_cases e : i = j
      · subst e
        unfold hz_brk
        unfold hz_inF at hf
        rw [hf, h2, decide_eq_true rfl]
        rfl
      · rw [decide_eq_false e] at q ⊢
        unfold hz_inF at q
        unfold hz_brk
        revert q
        cases decide (st.2.1 j 4 ≤ st.2.2.2.1) <;> cases hz_hold (st.2.1 j 0) (st.2.1 j 1) (nI k) <;> decide
    · rw [decide_eq_false hj, decide_eq_false (fun z : i = j => hj (z ▸ hi))]
      rfl
theorem hz_fol_stand (st : hz_St) {i : Nat} (hi : i < st.1) (hf : hz_inF st.2.1 st.2.2.2.1 i = true) : hz_fol st i = decide (hz_stand st (hz_dif (hz_force st) (2 ^ i)) &&& (hz_held st.2.1 i ^^^ -1) = 0) := by
  apply Bool.eq_iff_iff.mpr
  unfold hz_fol
  rw [hf, Bool.true_and, hz_all_iff, decide_eq_true_iff, hz_bl_z]
  refine forall_congr' (fun k => forall_congr' (fun hk => ?_))
  rw [hz_bl_and, hz_bl_not _ hk, hz_good_bl st _ hk]
  unfold hz_held
  rw [hz_bl_hw _ _ hk]
  have q := hz_broke_one st hi hf k
  revert q
  cases hz_good st (hz_dif (hz_force st) (2 ^ i)) k <;> cases hz_hold (st.2.1 i 0) (st.2.1 i 1) (nI k) <;> intro q
  · rw [decide_eq_false (fun z => absurd (q.mp z).1 (by decide))]; decide
  · rw [decide_eq_false (fun z => absurd (q.mp z).1 (by decide))]; decide
  · rw [decide_eq_true (q.mpr ⟨rfl, rfl⟩)]; decide
  · rw [decide_eq_false (fun z => absurd (q.mp z).2 (by decide))]; decide
theorem hz_fol_split (st : hz_St) (hok : hz_okS st) {i : Nat} (hi : i < st.1) (hf : hz_inF st.2.1 st.2.2.2.1 i = true) {l e : Nat} (hl : l < 64) (he : e < 64) (hL : st.2.1 i 0 = nI l) (hE : st.2.1 i 1 = nI e) : hz_fol st i = decide (hz_ways st (hz_dif (hz_force st) (2 ^ i)) e l = 0) := by
  have hfit : ∀ k, hz_fit e l k = !hz_hold (nI l) (nI e) (nI k) := by
    intro k
    cases c : hz_hold (nI l) (nI e) (nI k) with
    | false =>
      have q := (hz_hold_f hl he).mp c
      refine hz_fit_iff.mpr (fun j hj => ?_)
      have q := q j hj
      revert q
      cases l.testBit j <;> cases e.testBit j <;> cases k.testBit j <;> decide
    | true =>
      refine ts_nt (fun z => ?_)
      have q := hz_fit_iff.mp z
      rw [(hz_hold_f hl he).mpr (fun j hj => ?_)] at c
      · cases c
      · have q := q j hj
        revert q
        cases l.testBit j <;> cases e.testBit j <;> cases k.testBit j <;> decide
  have hz : hz_ways st (hz_dif (hz_force st) (2 ^ i)) e l = 0 ↔ ∀ k, k < 64 → (hz_fit e l k && hz_good st (hz_dif (hz_force st) (2 ^ i)) k) = false := ⟨fun z => hz_cnt_z z, fun z => hz_cnt_0 z⟩
  apply Bool.eq_iff_iff.mpr
  unfold hz_fol
  rw [hf, Bool.true_and, hz_all_iff, decide_eq_true_iff, hz]
  refine forall_congr' (fun k => forall_congr' (fun hk => ?_))
  rw [hfit]
  have q := hz_broke_one st hi hf k
  rw [hL, hE] at q
  revert q
  cases hz_good st (hz_dif (hz_force st) (2 ^ i)) k <;> cases hz_hold (nI l) (nI e) (nI k) <;> intro q
  · rw [decide_eq_false (fun z => absurd (q.mp z).1 (by decide))]; decide
  · rw [decide_eq_false (fun z => absurd (q.mp z).1 (by decide))]; decide
  · rw [decide_eq_true (q.mpr ⟨rfl, rfl⟩)]; decide
  · rw [decide_eq_false (fun z => absurd (q.mp z).2 (by decide))]; decide
theorem x_fol (d i : Nat) (h : hq_H) (st : hz_St) (H : hz_HC h 0 st) (hn : st.1 ≤ 10) (hi : i < st.1) : hq_Met (d + 4) MX6_followsFromOthers [.inr (3, 0), hz_i (nI i)] h (hz_o (hz_b (hz_fol st i))) h := by
  refine inX6_followsFromOthers (d + 3) 0 (nI i) h _ _ (fun _ => trivial) (fun J b0 => b0 _ _ _ ?_)
  refine ⟨_, _, x_force (d + 1) h st H hn H.2.2.1, ?_⟩
  have f31 := hz_force31 st hn
  have e1 := hz_pw (k := i) (by omega)
  cases c : hz_inF st.2.1 st.2.2.2.1 i with
  | false =>
    refine hq_nf (hz_bit0 f31 (by omega) ((hz_force_bit st hi).trans c)) ?_
    refine ⟨Or.inl rfl, hz_rf ?_, rfl⟩
    unfold hz_fol
    rw [c]
    rfl
  | true =>
    refine hq_nt (hz_bitn f31 (by omega) ((hz_force_bit st hi).trans c)) ?_
    refine ⟨_, _, x_ways (d + 1) h st H hn (by rw [e1]; exact hz_difN _ _) (hz_dif_lt _ f31), ?_⟩
    refine ⟨_, _, x_X0_at (d + 2) 0 (show i < 10 by omega) h, ?_⟩
    have e6 : h.2 1 (11 * 0 + i) 6 = hz_held st.2.1 i := (H.2.2.2.2.2 i hi).2
    have ef := hz_fol_stand st hi c
    rw [← e6] at ef
    rw [ef]
    refine hq_nc (fun c2 => ?_) (fun c2 => ?_)
    · exact ⟨Or.inl rfl, hz_rf (decide_eq_false (fun z => c2 ((hz_cmp0 _).mpr z))), rfl⟩
    · exact ⟨Or.inr rfl, hz_rb (decide_eq_true ((hz_cmp0 _).mp c2)), rfl⟩
theorem x_fols (d i : Nat) (h : hq_H) (st : hz_St) (H : hz_HC h 0 st) (hok : hz_okS st) (hi : i < st.1) : hq_Met (d + 10) MX6_followsWhenSplit [.inr (3, 0), hz_i (nI i)] h (hz_o (hz_b (hz_fol st i))) h := by
  have hn := hok.1
  refine inX6_followsWhenSplit (d + 9) 0 (nI i) h _ _ (fun _ => trivial) (fun J b0 => b0 _ _ _ ?_)
  refine ⟨_, _, x_force (d + 7) h st H hn H.2.2.1, ?_⟩
  have f31 := hz_force31 st hn
  have e1 := hz_pw (k := i) (by omega)
  cases c : hz_inF st.2.1 st.2.2.2.1 i with
  | false =>
    refine hq_nf (hz_bit0 f31 (by omega) ((hz_force_bit st hi).trans c)) ?_
    refine ⟨Or.inl rfl, hz_rf ?_, rfl⟩
    unfold hz_fol
    rw [c]
    rfl
  | true =>
    refine hq_nt (hz_bitn f31 (by omega) ((hz_force_bit st hi).trans c)) ?_
    refine ⟨_, _, x_X0_at (d + 8) 0 (show i < 10 by omega) h, ?_⟩
    obtain ⟨⟨l, e, hl, he, hL, hE, hle, -⟩, -, -⟩ := hok.2.2 i hi
    have r0 : h.1 1 (11 * 0 + i) 0 = nI l := ((H.2.2.2.2.2 i hi).1 0 (by decide)).trans hL
    have r1 : h.1 1 (11 * 0 + i) 1 = nI e := ((H.2.2.2.2.2 i hi).1 1 (by decide)).trans hE
    have m := x_split d h st H hok (hz_dif (hz_force st) (2 ^ i)) (hz_dif_lt _ f31) 6 0 e l rfl he hl (fun j hj => by
      rw [Bool.and_comm]
      exact (hz_and0 e hl).mp hle j hj) (fun j hj => absurd hj (Nat.not_lt_zero j))
    rw [← hz_difN, ← e1, ← r0, ← r1] at m
    refine ⟨_, _, m, ?_⟩
    rw [hz_fol_split st hok hi c hl he hL hE]
    have w31 : hz_ways st (hz_dif (hz_force st) (2 ^ i)) e l < 2 ^ 31 := Nat.lt_of_le_of_lt (hz_cnt_le _ 64) (by decide)
    refine hq_nc (fun c2 => ?_) (fun c2 => ?_)
    · exact ⟨Or.inl rfl, hz_rf (decide_eq_false (fun z => c2 (congrArg nI z))), rfl⟩
    · exact ⟨Or.inr rfl, hz_rb (decide_eq_true ((nI_eq (b := 0) w31 (by decide)).mp c2)), rfl⟩
def sp_follows (w : hz_W) (x : Int32) : hz_X := match hz_ix x w.1.1 with
  | none => (.inr hz_IOB, w)
  | some k => (hz_o (hz_b (hz_fol w.1 k)), w)
theorem t_follows (d : Nat) (h : hq_H) (w : hz_W) (H : hz_RC h w) (x : Int32) : hz_Ans MX6_follows (d + 5) [.inr (3, 0), hz_i x] h (sp_follows w x) := by
  have n10 := H.2.1.1
  unfold sp_follows
  cases hx : hz_ix x w.1.1 with
  | none =>
    refine hz_same H (inX6_follows (d + 4) 0 x h _ _ (fun _ => trivial) (fun J b0 => b0 _ _ _ ?_))
    exact Or.inr ⟨_, x_X6_requireRule_n (d + 3) w.1.1 x h hx H.1.1, rfl⟩
  | some k =>
    obtain ⟨rfl, hk⟩ := hz_ix_s (by omega) hx
    refine hz_same H (inX6_follows (d + 4) 0 _ h _ _ (fun _ => trivial) (fun J b0 => b0 _ _ _ ?_))
    refine Or.inl ⟨_, x_X6_requireRule_y (d + 3) k w.1.1 h hk n10 H.1.1, ?_⟩
    exact ⟨_, _, x_fol d k h w.1 H.1 n10 hk, hz_bz _, rfl, rfl⟩
theorem t_followsBySplitting (d : Nat) (h : hq_H) (w : hz_W) (H : hz_RC h w) (x : Int32) : hz_Ans MX6_followsBySplitting (d + 11) [.inr (3, 0), hz_i x] h (sp_follows w x) := by
  have n10 := H.2.1.1
  unfold sp_follows
  cases hx : hz_ix x w.1.1 with
  | none =>
    refine hz_same H (inX6_followsBySplitting (d + 10) 0 x h _ _ (fun _ => trivial) (fun J b0 => b0 _ _ _ ?_))
    exact Or.inr ⟨_, x_X6_requireRule_n (d + 9) w.1.1 x h hx H.1.1, rfl⟩
  | some k =>
    obtain ⟨rfl, hk⟩ := hz_ix_s (by omega) hx
    refine hz_same H (inX6_followsBySplitting (d + 10) 0 _ h _ _ (fun _ => trivial) (fun J b0 => b0 _ _ _ ?_))
    refine Or.inl ⟨_, x_X6_requireRule_y (d + 9) k w.1.1 h hk n10 H.1.1, ?_⟩
    exact ⟨_, _, x_fols d k h w.1 H.1 H.2.1 hk, hz_bz _, rfl, rfl⟩
