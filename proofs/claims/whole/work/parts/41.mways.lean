-- ===== the reference: ways of rules and sets =====
theorem hz_hold_any {l e k : Nat} (hl : l < 64) (he : e < 64) : hz_hold (nI l) (nI e) (nI k) = hz_any (fun r => (l.testBit r && k.testBit r) || (e.testBit r && !k.testBit r)) 6 := by
  cases c : hz_hold (nI l) (nI e) (nI k) with
  | false =>
    have q := (hz_hold_f hl he).mp c
    symm
    refine ts_nt (fun z => ?_)
    obtain ⟨r, hr, y⟩ := hz_any_iff.mp z
    obtain ⟨q1, q2⟩ := q r hr
    have y : ((l.testBit r && k.testBit r) || (e.testBit r && !k.testBit r)) = true := y
    rw [q1, q2] at y
    cases y
  | true =>
    symm
    refine ts_nf (fun z => ?_)
    rw [(hz_hold_f hl he).mpr (fun r hr => ?_)] at c
    · cases c
    · have y : ¬ ((l.testBit r && k.testBit r) || (e.testBit r && !k.testBit r)) = true := fun y => by
        have w := (hz_any_iff (p := fun r => (l.testBit r && k.testBit r) || (e.testBit r && !k.testBit r))).mpr ⟨r, hr, y⟩
        rw [z] at w
        cases w
      revert y
      cases l.testBit r <;> cases e.testBit r <;> cases k.testBit r <;> decide
theorem hz_andm1 (x : Int64) : x &&& (-1) = x := hz_bl_ext (fun k hk => by rw [hz_bl_and, hz_bl_m1 k hk, Bool.and_true])
theorem hz_bl_1 {k : Nat} (hk : k < 64) : hz_bl 1 k = decide (k = 0) := hz_bl_one 0 (by decide) k hk
theorem hz_and1 (y : Int64) : y &&& 1 = 0 ∨ y &&& 1 = 1 := by
  cases c : hz_bl y 0 with
  | false =>
    refine Or.inl (hz_bl_ext (fun k hk => ?_))
    rw [hz_bl_and, hz_bl_1 hk, hz_bl_0]
    by_cases e : k = 0
    · rw [e, c]; rfl
    · rw [decide_eq_false e, Bool.and_false]
  | true =>
    refine Or.inr (hz_bl_ext (fun k hk => ?_))
    rw [hz_bl_and, hz_bl_1 hk]
    by_cases e : k = 0
    · rw [e, c]; rfl
    · rw [decide_eq_false e, Bool.and_false]
theorem hz_bl_sh1 {x : Int64} {k : Nat} (hk : k < 64) : ((x.toUInt64 >>> ((nI k).toInt64.toUInt64 &&& Int64.toUInt64 63)).toInt64 &&& 1) = 1 ↔ hz_bl x k = true := by
  have q := hz_bl_sh (x := x) hk
  rcases hz_and1 ((x.toUInt64 >>> ((nI k).toInt64.toUInt64 &&& Int64.toUInt64 63)).toInt64) with c | c
  · refine ⟨fun z => ?_, fun z => ?_⟩
    · rw [c] at z
      exact absurd z (by decide)
    · rw [q.mp c] at z
      cases z
  · refine ⟨fun _ => ts_nf (fun z => ?_), fun _ => c⟩
    rw [q.mpr z] at c
    exact absurd c (by decide)
theorem hz_cmpe (x y : Int64) : (lg_cmp x y = 0) ↔ x = y := by
  unfold lg_cmp
  by_cases h1 : x > y
  · rw [if_pos h1]
    refine ⟨fun z => absurd z (by decide), fun z => ?_⟩
    rw [z] at h1
    exact absurd h1 (Int64.lt_irrefl)
  · rw [if_neg h1]
    by_cases h2 : x = y
    · rw [if_pos h2]
      exact ⟨fun _ => h2, fun _ => rfl⟩
    · rw [if_neg h2]
      exact ⟨fun z => absurd z (by decide), fun z => absurd z h2⟩
/-- the condition as the reference asks it -/
theorem hz_bl_cmp {x : Int64} {k : Nat} (hk : k < 64) : lg_cmp ((x.toUInt64 >>> ((nI k).toInt64.toUInt64 &&& Int64.toUInt64 63)).toInt64 &&& 1) 1 = 0 ↔ hz_bl x k = true := (hz_cmpe _ _).trans (hz_bl_sh1 hk)
theorem m_wof (d : Nat) (h : hq_H) (L : hm_L h) {l e : Nat} (hl : l < 64) (he : e < 64) : hq_Met (d + 2) MX7_waysOf [.inr (13, 0), hz_i (nI l), hz_i (nI e)] h (hz_ol (hz_hw (nI l) (nI e))) h := by
  refine inX7_waysOf (d + 1) 0 (nI l) (nI e) h _ _ (fun _ => trivial) (fun J b0 b5 b33 => b0 _ _ _ ?_)
  have key := hq_up (P := fun m => J 5 [some (.inr (13, 0)), some (hz_i (nI l)), some (hz_i (nI e)), some (hz_l (hz_fb (fun k => hz_any (fun r => (l.testBit r && k.testBit r) || (e.testBit r && !k.testBit r)) m))), none, some (hz_i (nI m))] [] h) 6 (b5 _ _ _ ?_) (fun m hm ih => b5 _ _ _ ?_) 0 (Nat.zero_le _)
  · have g0 : hz_fb (fun k => hz_any (fun r => (l.testBit r && k.testBit r) || (e.testBit r && !k.testBit r)) 0) = 0 := hz_bl_ext (fun k hk => by rw [hz_fb_bl _ hk, hz_bl_0]; rfl)
    rw [g0] at key
    exact key
  · refine hq_bt (hz_le (a := 6) (b := 6) rfl rfl (Nat.le_refl _) (by decide)) ⟨hz_rl ?_, rfl⟩
    refine hz_bl_ext (fun k hk => ?_)
    rw [hz_fb_bl _ hk, hz_bl_hw _ _ hk, hz_hold_any hl he]
  · refine hq_bf (hz_nle (a := 6) (b := m) rfl rfl hm (by decide)) ?_
    refine ⟨_, _, m_isIn d h rfl rfl (by omega) (by omega), ?_⟩
    have mid : ∀ y, (∀ k, k < 64 → hz_bl y k = (l.testBit m && k.testBit m)) → J 33 [some (.inr (13, 0)), some (hz_i (nI l)), some (hz_i (nI e)), some (hz_l (hz_fb (fun k => hz_any (fun r => (l.testBit r && k.testBit r) || (e.testBit r && !k.testBit r)) m))), none, some (hz_i (nI m))] [hz_l y, hz_l (hz_fb (fun k => hz_any (fun r => (l.testBit r && k.testBit r) || (e.testBit r && !k.testBit r)) m))] h := by
      intro y hy
      refine b33 _ _ _ ?_
      refine ⟨_, _, m_isIn d h rfl rfl (by omega) (by omega), ?_⟩
      have stp : ∀ z, (∀ k, k < 64 → hz_bl z k = (e.testBit m && !k.testBit m)) → hz_fb (fun k => hz_any (fun r => (l.testBit r && k.testBit r) || (e.testBit r && !k.testBit r)) (m + 1)) = (hz_fb (fun k => hz_any (fun r => (l.testBit r && k.testBit r) || (e.testBit r && !k.testBit r)) m) ||| y) ||| z := by
        intro z hz
        refine hz_bl_ext (fun k hk => ?_)
        rw [hz_bl_or, hz_bl_or, hz_fb_bl _ hk, hz_fb_bl _ hk, hy k hk, hz k hk, Bool.or_assoc]
        rfl
      rw [nI_succ m] at ih
      cases t : e.testBit m with
      | false =>
        rw [stp 0 (fun k hk => by rw [hz_bl_0, t]; rfl)] at ih
        exact hq_bt rfl ih
      | true =>
        refine hq_bf hz_one0 ?_
        refine ⟨m, hm, rfl, ?_⟩
        rw [stp (h.2 16 0 m ^^^ -1) (fun k hk => by rw [hz_bl_not _ hk, L m hm k hk, t]; rfl)] at ih
        exact ih
    cases t : l.testBit m with
    | false => exact hq_bt rfl (mid 0 (fun k hk => by rw [hz_bl_0, t]; rfl))
    | true =>
      refine hq_bf hz_one0 ?_
      refine ⟨m, hm, rfl, ?_⟩
      exact mid (h.2 16 0 m) (fun k hk => by rw [L m hm k hk, t]; rfl)
/-- the row of ways, filled below m -/
def hw_lk (h : hq_H) (T : Nat → Int64) (m : Nat) : hq_H := (h.1, fun k i s => if k = 17 ∧ i = 0 ∧ s < m then T s else h.2 k i s)
theorem hw_lk_s (h : hq_H) (T : Nat → Int64) (m : Nat) : hq_sl (hw_lk h T m) 17 0 m (T m) = hw_lk h T (m + 1) := by
  refine hq_ext (fun _ _ _ => rfl) (fun k i s => ?_)
  rw [hq_sl_at]
  show (if k = 17 ∧ s = m ∧ i = 0 then T m else if k = 17 ∧ i = 0 ∧ s < m then T s else h.2 k i s) = if k = 17 ∧ i = 0 ∧ s < m + 1 then T s else h.2 k i s
  by_cases c : k = 17 ∧ i = 0
  · by_cases e : s = m
    · rw [if_pos ⟨c.1, e, c.2⟩, if_pos ⟨c.1, c.2, by omega⟩, e]
    · rw [if_neg (fun z => e z.2.1)]
      by_cases l : s < m
      · rw [if_pos ⟨c.1, c.2, l⟩, if_pos ⟨c.1, c.2, by omega⟩]
      · rw [if_neg (fun z => l z.2.2), if_neg (fun z => by have := z.2.2; omega)]
  · rw [if_neg (fun z => c ⟨z.1, z.2.2⟩), if_neg (fun z => c ⟨z.1, z.2.1⟩), if_neg (fun z => c ⟨z.1, z.2.1⟩)]
theorem hw_lk_0 (h : hq_H) (T : Nat → Int64) : hw_lk h T 0 = h := hq_ext (fun _ _ _ => rfl) (fun _ _ _ => if_neg (fun z => Nat.not_lt_zero _ z.2.2))
theorem hw_lk_at {h : hq_H} {T : Nat → Int64} {m s : Nat} (hs : s < m) : (hw_lk h T m).2 17 0 s = T s := if_pos ⟨rfl, rfl, hs⟩
theorem hw_lk_o {h : hq_H} {T : Nat → Int64} {m k i : Nat} (hk : k ≠ 17) : (hw_lk h T m).2 k i = h.2 k i := by
  funext s
  exact if_neg (fun z => hk z.1)
theorem hw_lk_L {h : hq_H} {T : Nat → Int64} {m : Nat} (L : hm_L h) : hm_L (hw_lk h T m) := fun r hr k hk => by
  rw [hw_lk_o (by decide)]
  exact L r hr k hk
def hm_lk (h : hq_H) (st : hz_St) : hq_H := hw_lk h (hz_held st.2.1) st.1
theorem hm_lk_Q {h : hq_H} {st : hz_St} (Q : hm_Q h st) : hm_Q (hm_lk h st) st := ⟨Q.1, hw_lk_L Q.2⟩
theorem hm_lk_W (h : hq_H) (st : hz_St) : ∀ k, k < st.1 → (hm_lk h st).2 17 0 k = hz_held st.2.1 k := fun _ hk => hw_lk_at hk
theorem hm_lk_lk (h : hq_H) (st : hz_St) : hm_lk (hm_lk h st) st = hm_lk h st := by
  refine hq_ext (fun _ _ _ => rfl) (fun k i s => ?_)
  show (if k = 17 ∧ i = 0 ∧ s < st.1 then hz_held st.2.1 s else if k = 17 ∧ i = 0 ∧ s < st.1 then hz_held st.2.1 s else h.2 k i s) = if k = 17 ∧ i = 0 ∧ s < st.1 then hz_held st.2.1 s else h.2 k i s
  split <;> rfl
theorem m_looks (d : Nat) (h : hq_H) (st : hz_St) (Q : hm_Q h st) (hok : hz_okS st) : hq_Met (d + 3) MX7_looks [.inr (13, 0)] h hz_v (hm_lk h st) := by
  have n10 := hok.1
  refine inX7_looks (d + 2) 0 h _ _ (fun _ => trivial) (fun J b0 b2 => b0 _ _ _ ?_)
  have key := hq_up (P := fun k => J 2 [some (.inr (13, 0)), some (hz_i (nI k))] [] (hw_lk h (hz_held st.2.1) k)) st.1 (b2 _ _ _ ?_) (fun k hk ih => b2 _ _ _ ?_) 0 (Nat.zero_le _)
  · rw [hw_lk_0] at key
    exact key
  · refine ⟨0, by decide, rfl, ?_⟩
    exact hq_bt (hz_le Q.1.1 rfl (Nat.le_refl _) (by omega)) ⟨rfl, rfl⟩
  · refine ⟨0, by decide, rfl, ?_⟩
    refine hq_bf (hz_nle Q.1.1 rfl hk (by omega)) ?_
    obtain ⟨⟨l, e, hl, he, hL, hE, -, -⟩, -, -⟩ := hok.2.2 k hk
    have e0 : h.1 14 0 (5 + 6 * k) = nI l := (Q.1.2.2.2.2.2 k hk 0 (by decide)).trans hL
    have e1 : h.1 14 0 (5 + 6 * k + 1) = nI e := (Q.1.2.2.2.2.2 k hk 1 (by decide)).trans hE
    refine ⟨_, _, m_at (d + 1) k _, ?_⟩
    refine ⟨5 + 6 * k, by omega, rfl, ?_⟩
    refine ⟨_, _, m_at (d + 1) k _, ?_⟩
    refine ⟨5 + 6 * k + 1, by omega, nI_add (5 + 6 * k) 1, ?_⟩
    have m := m_wof d (hw_lk h (hz_held st.2.1) k) (hw_lk_L Q.2) hl he
    have eh : hz_held st.2.1 k = hz_hw (nI l) (nI e) := by
      unfold hz_held
      rw [hL, hE]
    rw [← eh, ← e0, ← e1] at m
    refine ⟨_, _, m, ?_⟩
    refine ⟨k, by omega, rfl, ?_⟩
    rw [nI_succ k, ← hw_lk_s] at ih
    exact ih
theorem m_woa (d : Nat) (h : hq_H) (st : hz_St) (H : hm_S (h.1 14 0) st) (hn : st.1 ≤ 10) (hW : ∀ k, k < st.1 → h.2 17 0 k = hz_held st.2.1 k) {x : Int32} {S : Nat} (hx : x = nI S) (hS : S < 2 ^ 31) : hq_Met (d + 2) MX7_waysOfAll [.inr (13, 0), hz_i x] h (hz_ol (hz_stand st S)) h := by
  subst hx
  refine inX7_waysOfAll (d + 1) 0 (nI S) h _ _ (fun _ => trivial) (fun J b0 b7 => b0 _ _ _ ?_)
  refine hq_up (P := fun k => J 7 [some (.inr (13, 0)), some (hz_i (nI S)), some (hz_l (hz_and (fun k => S.testBit k) (hz_held st.2.1) k)), none, some (hz_i (nI k))] [] h) st.1 (b7 _ _ _ ?_) (fun k hk ih => b7 _ _ _ ?_) 0 (Nat.zero_le _)
  · refine ⟨0, by decide, rfl, ?_⟩
    exact hq_bt (hz_le H.1 rfl (Nat.le_refl _) (by omega)) ⟨rfl, rfl⟩
  · refine ⟨0, by decide, rfl, ?_⟩
    refine hq_bf (hz_nle H.1 rfl hk (by omega)) ?_
    refine ⟨_, _, m_isIn d h rfl rfl hS (show k < 31 by omega), ?_⟩
    rw [nI_succ k] at ih
    cases c : S.testBit k with
    | false =>
      rw [hz_and_n c, ← hz_andm1 (hz_and (fun k => S.testBit k) (hz_held st.2.1) k)] at ih
      exact hq_bt rfl ih
    | true =>
      rw [hz_and_y c, ← hW k hk] at ih
      exact hq_bf hz_one0 ⟨k, by omega, rfl, ih⟩
theorem m_stands (d : Nat) (h : hq_H) (st : hz_St) (Q : hm_Q h st) (hok : hz_okS st) {x : Int32} {S : Nat} (hx : x = nI S) (hS : S < 2 ^ 31) : hq_Met (d + 4) MX7_stands [.inr (13, 0), hz_i x] h (hz_o (hz_b (hz_nz (hz_stand st S)))) (hm_lk h st) := by
  have n10 := hok.1
  refine inX7_stands (d + 3) 0 x h _ _ (fun _ => trivial) (fun J b0 => b0 _ _ _ ?_)
  refine ⟨_, m_looks d h st Q hok, ?_⟩
  refine ⟨_, _, m_woa (d + 1) (hm_lk h st) st Q.1 n10 (hm_lk_W h st) hx hS, ?_⟩
  refine hq_bc (fun c => ?_) (fun c => ?_)
  · exact ⟨Or.inl rfl, hz_rf (by unfold hz_nz; rw [decide_eq_true ((hz_cmp0 _).mp c)]; rfl), rfl⟩
  · exact ⟨Or.inr rfl, hz_rb (by unfold hz_nz; rw [decide_eq_false (fun z => c ((hz_cmp0 _).mpr z))]; rfl), rfl⟩
theorem m_peace (d : Nat) (h : hq_H) (st : hz_St) (Q : hm_Q h st) (hok : hz_okS st) : hq_Met (d + 4) MX7_peace [.inr (13, 0)] h (hz_ol (hz_peace st.2.1 st.1 st.2.2.2.1)) (hm_lk h st) := by
  have n10 := hok.1
  refine inX7_peace (d + 3) 0 h _ _ (fun _ => trivial) (fun J b0 => b0 _ _ _ ?_)
  refine ⟨_, m_looks d h st Q hok, ?_⟩
  refine ⟨_, _, m_force d (hm_lk h st) st Q.1 n10, ?_⟩
  refine ⟨_, _, m_woa (d + 1) (hm_lk h st) st Q.1 n10 (hm_lk_W h st) rfl (hz_force31 st n10), ?_⟩
  exact ⟨hz_rl (hz_stand_force st).symm, rfl⟩
theorem m_cw (d : Nat) (x : Int64) (h : hq_H) : hq_Met (d + 1) MX7_countWays [hz_l x] h (hz_o (nI (hz_cnt (hz_bl x) 64))) h := by
  refine inX7_countWays d x h _ _ (fun _ => trivial) (fun J b0 b4 => b0 _ _ _ ?_)
  refine hq_up (P := fun k => J 4 [some (hz_l x), none, some (hz_i (nI (hz_cnt (hz_bl x) k))), some (hz_i (nI k))] [] h) 64 (b4 _ _ _ ?_) (fun k hk ih => b4 _ _ _ ?_) 0 (Nat.zero_le _)
  · exact hq_bt (hz_le (a := 64) (b := 64) rfl rfl (Nat.le_refl _) (by decide)) ⟨rfl, rfl⟩
  · refine hq_bf (hz_nle (a := 64) (b := k) rfl rfl hk (by decide)) ?_
    have s : hz_cnt (hz_bl x) (k + 1) = hz_cnt (hz_bl x) k + (if hz_bl x k = true then 1 else 0) := rfl
    rw [s, nI_succ k] at ih
    refine hq_nc (fun c => ?_) (fun c => ?_)
    · rw [if_neg (fun z => c ((hz_bl_cmp hk).mpr z)), ← nI_add] at ih
      exact ih
    · rw [if_pos ((hz_bl_cmp hk).mp c), ← nI_add] at ih
      exact ih
theorem hz_pf_0 : ∀ f, hz_pf f 0 = 0
  | 0 => rfl
  | f + 1 => by
    show 0 % 2 + hz_pf f (0 / 2) = 0
    rw [Nat.zero_div, hz_pf_0 f]
theorem m_cnt (d : Nat) {x : Int32} {S : Nat} (hx : x = nI S) (h : hq_H) (hS : S < 2048) : hq_Met (d + 1) MX7_count [hz_i x] h (hz_o (nI (hz_pc S))) h := by
  subst hx
  refine inX7_count d (nI S) h _ _ (fun _ => trivial) (fun J b0 b4 => b0 _ _ _ ?_)
  have key : ∀ f s l, l < 2 ^ f → l < 2048 → s + hz_pf f l = hz_pc S → J 4 [some (hz_i (nI S)), some (hz_i (nI s)), some (hz_i (nI l))] [] h := by
    intro f
    induction f with
    | zero =>
      intro s l hl _ e
      have l0 : l = 0 := by
        have : l < 1 := hl
        omega
      subst l0
      have e : s + 0 = hz_pc S := e
      refine b4 _ _ _ (hq_bt (show nI 0 ≤ 0 by decide) ⟨hz_ri (congrArg nI (e.symm.trans (Nat.add_zero s))), rfl⟩)
    | succ f ih =>
      intro s l hl hl2 e
      by_cases l0 : l = 0
      · subst l0
        rw [hz_pf_0] at e
        exact b4 _ _ _ (hq_bt (show nI 0 ≤ 0 by decide) ⟨hz_ri (congrArg nI (e.symm.trans (Nat.add_zero s))), rfl⟩)
      · refine b4 _ _ _ (hq_bf (nI_nle (by omega) (by omega)) ?_)
        have e1 : nI s + (nI l &&& 1) = nI (s + l % 2) := (congrArg (fun z => nI s + z) (pk_andN (n := l) (by omega) (m := 1) 1 (by decide))).trans (nI_add _ _)
        have e2 : nI l >>> ((1 : Int32) &&& 31) = nI (l / 2) := pk_shrN (n := l) (by omega) ((1 : Int32) &&& 31) 1 (by decide)
        have e : s + (l % 2 + hz_pf f (l / 2)) = hz_pc S := e
        have q := ih (s + l % 2) (l / 2) (by rw [Nat.pow_succ] at hl; omega) (by omega) (by omega)
        rw [← e1, ← e2] at q
        exact q
  exact key 11 0 S hS hS (Nat.zero_add _)
