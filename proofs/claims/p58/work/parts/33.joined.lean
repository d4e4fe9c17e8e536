-- ===== joining all rules of a set =====
def hw_fz (h : hq_H) (m : Nat) : hq_H := (h.1, fun k i s => if k = 10 ∧ i = 0 ∧ s < m then 0 else h.2 k i s)
theorem hw_fz_s (h : hq_H) (m : Nat) : hq_sl (hw_fz h m) 10 0 m 0 = hw_fz h (m + 1) := by
  refine hq_ext (fun _ _ _ => rfl) (fun k i s => ?_)
  rw [hq_sl_at]
  show (if k = 10 ∧ s = m ∧ i = 0 then 0 else if k = 10 ∧ i = 0 ∧ s < m then 0 else h.2 k i s) = if k = 10 ∧ i = 0 ∧ s < m + 1 then 0 else h.2 k i s
  by_cases c : k = 10 ∧ i = 0
  · by_cases e : s = m
    · rw [if_pos ⟨c.1, e, c.2⟩, if_pos ⟨c.1, c.2, by omega⟩]
    · rw [if_neg (fun z => e z.2.1)]
      by_cases l : s < m
      · rw [if_pos ⟨c.1, c.2, l⟩, if_pos ⟨c.1, c.2, by omega⟩]
      · rw [if_neg (fun z => l z.2.2), if_neg (fun z => by have := z.2.2; omega)]
  · rw [if_neg (fun z => c ⟨z.1, z.2.2⟩), if_neg (fun z => c ⟨z.1, z.2.1⟩), if_neg (fun z => c ⟨z.1, z.2.1⟩)]
theorem hw_fz_0 (h : hq_H) : hw_fz h 0 = h := hq_ext (fun _ _ _ => rfl) (fun k i s => if_neg (fun z => Nat.not_lt_zero _ z.2.2))
theorem x_jfill (d : Nat) (h : hq_H) : hq_Met (d + 1) MJ7_fill_d0a16 [.inr (10, 0), hz_l 0] h hz_v (hw_fz h 64) := by
  refine inJ7_fill_d0a16 d 0 0 h _ _ (fun _ => trivial) (fun J b0 b6 => b0 _ _ _ ?_)
  have key := hq_up (P := fun m => J 6 [some (.inr (10, 0)), some (hz_l 0), none, some (hz_i (nI m)), some (hz_i 64)] [] (hw_fz h m)) 64 (b6 _ _ _ (hq_bt (hz_le (a := 64) (b := 64) rfl rfl (Nat.le_refl _) (by decide)) ⟨rfl, rfl⟩)) (fun m hm ih => b6 _ _ _ ?_) 0 (Nat.zero_le _)
  · rw [hw_fz_0] at key
    exact key
  · refine hq_bf (hz_nle (a := 64) (b := m) rfl rfl hm (by decide)) ?_
    refine ⟨m, hm, rfl, ?_⟩
    rw [nI_succ m, ← hw_fz_s] at ih
    exact ih
theorem hw_jn_0 (h : hq_H) : hw_fz (hq_si h 8 0 2 0) 64 = hw_jn h (0, fun _ => 0) := by
  refine hq_ext (fun k i s => ?_) (fun k i s => ?_)
  · show (hq_si h 8 0 2 0).1 k i s = if k = 8 ∧ i = 0 ∧ s = 2 then nI 0 else if k = 9 ∧ i = 0 ∧ s < 0 then nI 0 else h.1 k i s
    rw [hq_si_at]
    by_cases c : k = 8 ∧ i = 0 ∧ s = 2
    · rw [if_pos ⟨c.1, c.2.2, c.2.1⟩, if_pos c]
      rfl
    · rw [if_neg (fun z => c ⟨z.1, z.2.2, z.2.1⟩), if_neg c, if_neg (fun z => Nat.not_lt_zero _ z.2.2)]
  · show (if k = 10 ∧ i = 0 ∧ s < 64 then 0 else h.2 k i s) = if k = 10 ∧ i = 0 ∧ s < 64 then hz_fb (fun e => hj_in (0, fun _ => 0) (64 * s + e)) else h.2 k i s
    by_cases c : k = 10 ∧ i = 0 ∧ s < 64
    · rw [if_pos c, if_pos c]
      apply hz_bl_ext
      intro q hq
      rw [hz_fb_bl _ hq, hz_bl_0]
      rfl
    · rw [if_neg c, if_neg c]
theorem hj_code_v {l e : Nat} (hl : l < 64) (he : e < 64) (h : l &&& e = 0) : hj_v (64 * l + e) := by
  refine ⟨by omega, fun b hb => ?_⟩
  have q := (hz_and0 e hl).mp h b hb
  have c1 : 64 * l + e = 2 ^ 6 * l ||| e := Nat.two_pow_add_eq_or_of_lt (i := 6) he l
  have t1 : (64 * l + e).testBit (b + 6) = l.testBit b := by
    rw [← hj_d64]
    congr 1
    omega
  have t2 : (64 * l + e).testBit b = e.testBit b := by
    have e2 : ((64 * l + e) % 2 ^ 6).testBit b = (decide (b < 6) && (64 * l + e).testBit b) := Nat.testBit_mod_two_pow _ 6 b
    rw [decide_eq_true hb, Bool.true_and] at e2
    rw [← e2]
    congr 1
    omega
  rw [t1, t2]
  exact q
theorem hj_init_ok {st : hz_St} (hok : hz_okS st) (S : Nat) : ∀ k, k ≤ st.1 → hj_ok (hj_init st S k)
  | 0, _ => ⟨fun i hi => absurd hi (Nat.not_lt_zero i), fun i j _ hj => absurd hj (Nat.not_lt_zero j)⟩
  | k + 1, hk => by
    have ih := hj_init_ok hok S k (by omega)
    obtain ⟨⟨l, e, hl, he, hL, hE, hle, -⟩, -, -⟩ := hok.2.2 k (by omega)
    have c : hj_code st k = 64 * l + e := by
      unfold hj_code
      rw [hL, hE, nI_clamp (by omega), nI_clamp (by omega)]
    show hj_ok (if S.testBit k = true then hj_add (hj_init st S k) (hj_code st k) else hj_init st S k)
    split
    · rw [c]
      exact hj_add_ok ih (hj_code_v hl he hle)
    · exact ih
theorem x_joinAll (d : Nat) (h : hq_H) (st : hz_St) (H : hz_HC h 0 st) (hok : hz_okS st) {S : Nat} (hS : S < 2 ^ 31) : hq_Met (d + 3) MX1_joinAll [.inr (8, 0), .inr (0, 0), hz_i (nI S)] h hz_v (hw_jn h (hz_joined st S)) := by
  have n10 := hok.1
  refine inX1_joinAll (d + 2) 0 0 (nI S) h _ _ (fun _ => trivial) (fun J b0 b15 b59 => b0 _ _ _ ?_)
  refine ⟨_, x_jfill (d + 1) (hq_si h 8 0 2 0), ?_⟩
  rw [hw_jn_0]
  have close : ∀ f k L, f + k = 730 → hj_ok L → hj_close f k L = hz_joined st S → J 59 [some (.inr (8, 0)), some (.inr (0, 0)), some (hz_i (nI S)), some (hz_i (nI k))] [] (hw_jn h L) := by
    intro f
    induction f with
    | zero =>
      intro k L hk hL e
      have mx := hj_max hL
      have e : L = hz_joined st S := e
      refine b59 _ _ _ (hq_bt (hz_le (a := L.1) (b := k) (hw_jn_n h L) rfl (by omega) (by omega)) ⟨rfl, ?_⟩)
      rw [e]
    | succ f ih =>
      intro k L hk hL e
      have mx := hj_max hL
      have e : (if k < L.1 then hj_close f (k + 1) (hj_row L k k) else L) = hz_joined st S := e
      by_cases c : k < L.1
      · rw [if_pos c] at e
        refine b59 _ _ _ (hq_bf (hz_nle (a := L.1) (b := k) (hw_jn_n h L) rfl c (by omega)) ?_)
        refine hq_bf (hz_nle (a := 729) (b := k) rfl rfl (by omega) (by omega)) ?_
        refine ⟨_, x_row d h hL c, ?_⟩
        have q := ih (k + 1) (hj_row L k k) (by omega) (hj_row_ok hL c k (Nat.le_refl _)) e
        rw [nI_succ k] at q
        exact q
      · rw [if_neg c] at e
        refine b59 _ _ _ (hq_bt (hz_le (a := L.1) (b := k) (hw_jn_n h L) rfl (by omega) (by omega)) ⟨rfl, ?_⟩)
        rw [e]
  refine hq_up (P := fun k => J 15 [some (.inr (8, 0)), some (.inr (0, 0)), some (hz_i (nI S)), some (hz_i (nI k))] [] (hw_jn h (hj_init st S k))) st.1 (b15 _ _ _ ?_) (fun k hk ih => b15 _ _ _ ?_) 0 (Nat.zero_le _)
  · refine hq_bt (hz_le (a := st.1) (b := st.1) ((hw_jn_o h _ (by decide) 0 2).trans H.1) rfl (Nat.le_refl _) (by omega)) ?_
    exact close 729 1 (hj_init st S st.1) rfl (hj_init_ok hok S st.1 (Nat.le_refl _)) rfl
  · refine hq_bf (hz_nle (a := st.1) (b := k) ((hw_jn_o h _ (by decide) 0 2).trans H.1) rfl hk (by omega)) ?_
    have s : hj_init st S (k + 1) = if S.testBit k = true then hj_add (hj_init st S k) (hj_code st k) else hj_init st S k := rfl
    rw [s, nI_succ k] at ih
    cases t : S.testBit k with
    | false =>
      rw [if_neg (by rw [t]; decide)] at ih
      exact hq_bt (hz_bit0 hS (by omega) t) ih
    | true =>
      rw [if_pos t] at ih
      refine hq_bf (hz_bitn hS (by omega) t) ?_
      refine ⟨_, _, x_X0_at (d + 1) 0 (show k < 10 by omega) _, ?_⟩
      refine ⟨_, _, x_X0_at (d + 1) 0 (show k < 10 by omega) _, ?_⟩
      obtain ⟨⟨l, e, hl, he, hL, hE, hle, -⟩, -, -⟩ := hok.2.2 k hk
      have c : hj_code st k = 64 * l + e := by
        unfold hj_code
        rw [hL, hE, nI_clamp (by omega), nI_clamp (by omega)]
      rw [c] at ih
      have r0 : (hw_jn h (hj_init st S k)).1 1 (11 * 0 + k) 0 = nI l := (hw_jn_o h _ (by decide) _ 0).trans (((H.2.2.2.2.2 k hk).1 0 (by decide)).trans hL)
      have r1 : (hw_jn h (hj_init st S k)).1 1 (11 * 0 + k) 1 = nI e := (hw_jn_o h _ (by decide) _ 1).trans (((H.2.2.2.2.2 k hk).1 1 (by decide)).trans hE)
      exact ⟨_, x_jadd (d + 1) h (hj_init_ok hok S k (by omega)) hl he (hj_code_v hl he hle) r0 r1, ih⟩
theorem x_nothing (d : Nat) (h : hq_H) (L : hz_J) : hq_Met (d + 1) MX1_hasNothing [.inr (8, 0)] (hw_jn h L) (hz_o (hz_b (hj_in L 0))) (hw_jn h L) := by
  refine inX1_hasNothing d 0 (hw_jn h L) _ _ (fun _ => trivial) (fun J b0 => b0 _ _ _ ?_)
  refine hq_bf (by decide) ?_
  refine ⟨0, by decide, rfl, ?_⟩
  have e0 : (hw_jn h L).2 10 0 0 = hz_fb (fun e => hj_in L (64 * 0 + e)) := hw_jn_s h L (by decide)
  have b1 : hz_bl ((hw_jn h L).2 10 0 0) 0 = hj_in L 0 := by rw [e0, hz_fb_bl _ (by decide)]
  have z : (hw_jn h L).2 10 0 0 &&& 1 = 0 ↔ hj_in L 0 = false := by
    rw [← b1, hz_bl_z]
    have one : ∀ k, k < 64 → hz_bl 1 k = decide (k = 0) := hz_bl_one 0 (by decide)
    constructor
    · intro y
      have q := y 0 (by decide)
      rw [hz_bl_and, one 0 (by decide), decide_eq_true rfl, Bool.and_true] at q
      exact q
    · intro y k hk
      rw [hz_bl_and, one k hk]
      by_cases e : k = 0
      · rw [e, y]; rfl
      · rw [decide_eq_false e, Bool.and_false]
  refine hq_bc (fun c => ?_) (fun c => ?_)
  · exact ⟨Or.inl rfl, hz_rf (z.mp ((hz_cmp0 _).mp c)), rfl⟩
  · exact ⟨Or.inr rfl, hz_rb (ts_nf (fun y => c ((hz_cmp0 _).mpr (z.mpr y)))), rfl⟩
theorem t_canStandByJoining (d : Nat) (h : hq_H) (w : hz_W) (H : hz_RC h w) (x : Int32) : hz_Ans MX6_canStandByJoining (d + 5) [.inr (3, 0), hz_i x] h (sp_set w x (fun S => hz_b (!hj_in (hz_joined w.1 S) 0))) := by
  have n10 := H.2.1.1
  unfold sp_set
  cases hx : hz_ix x (2 ^ w.1.1) with
  | none =>
    refine hz_same H (inX6_canStandByJoining (d + 4) 0 x h _ _ (fun _ => trivial) (fun J b0 => b0 _ _ _ ?_))
    exact Or.inr ⟨_, x_X6_requireSet_n (d + 3) w.1.1 x h hx n10 H.1.1, rfl⟩
  | some S =>
    have p10 := hz_p10 n10
    obtain ⟨rfl, hS⟩ := hz_ix_s (by omega) hx
    refine hz_free H (hw_jn_st h (hz_joined w.1 S)) (inX6_canStandByJoining (d + 4) 0 _ h _ _ (fun _ => trivial) (fun J b0 => b0 _ _ _ ?_))
    refine Or.inl ⟨_, x_X6_requireSet_y (d + 3) S w.1.1 h hS n10 H.1.1, ?_⟩
    refine ⟨_, x_joinAll (d + 1) h w.1 H.1 H.2.1 (by omega), ?_⟩
    refine ⟨_, _, x_nothing (d + 3) h _, ?_⟩
    cases e : hj_in (hz_joined w.1 S) 0 with
    | true => exact hq_nt (by decide) ⟨Or.inl rfl, hz_rf (b := !hj_in (hz_joined w.1 S) 0) (by rw [e]; rfl), rfl⟩
    | false => exact hq_nf rfl ⟨Or.inr rfl, hz_rb (b := !hj_in (hz_joined w.1 S) 0) (by rw [e]; rfl), rfl⟩
theorem t_joined (d : Nat) (h : hq_H) (w : hz_W) (H : hz_RC h w) (x : Int32) : hz_Ans MX6_joined (d + 5) [.inr (3, 0), hz_i x] h (sp_set w x (fun S => nI (hz_joined w.1 S).1)) := by
  have n10 := H.2.1.1
  unfold sp_set
  cases hx : hz_ix x (2 ^ w.1.1) with
  | none =>
    refine hz_same H (inX6_joined (d + 4) 0 x h _ _ (fun _ => trivial) (fun J b0 => b0 _ _ _ ?_))
    exact Or.inr ⟨_, x_X6_requireSet_n (d + 3) w.1.1 x h hx n10 H.1.1, rfl⟩
  | some S =>
    have p10 := hz_p10 n10
    obtain ⟨rfl, hS⟩ := hz_ix_s (by omega) hx
    refine hz_free H (hw_jn_st h (hz_joined w.1 S)) (inX6_joined (d + 4) 0 _ h _ _ (fun _ => trivial) (fun J b0 => b0 _ _ _ ?_))
    refine Or.inl ⟨_, x_X6_requireSet_y (d + 3) S w.1.1 h hS n10 H.1.1, ?_⟩
    refine ⟨_, x_joinAll (d + 1) h w.1 H.1 H.2.1 (by omega), ?_⟩
    exact ⟨hz_ri (hw_jn_n h _).symm, rfl⟩
