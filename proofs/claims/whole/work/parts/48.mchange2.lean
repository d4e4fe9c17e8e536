-- ===== the reference: rules changed and withdrawn =====
theorem hm_attr_S {f : Nat → Int32} {st : hz_St} {r a : Nat} (x : Int32) (H : hm_S f st) (hr : r < st.1) (ha : a < 6) : hm_S (hm_up f (5 + 6 * r + a) x) (hs_attr st r a x) := by
  obtain ⟨a0, a1, a2, a3, a4, a5⟩ := H
  refine ⟨?_, ?_, ?_, ?_, ?_, fun k hk b hb => ?_⟩
  · rw [hm_up_n (by omega)]; exact a0
  · rw [hm_up_n (by omega)]; exact a1
  · rw [hm_up_n (by omega)]; exact a2
  · rw [hm_up_n (by omega)]; exact a3
  · rw [hm_up_n (by omega)]; exact a4
  · show _ = (if k = r ∧ b = a then x else st.2.1 k b)
    by_cases c : k = r ∧ b = a
    · rw [if_pos c, hm_up_e (by omega)]
    · rw [if_neg c, hm_up_n (by omega)]
      exact a5 k hk b hb
theorem hm_14_13 (h : hq_H) (j : Nat) (v : Int32) : (hq_si h 14 0 j v).1 13 0 = h.1 13 0 := hq_si_o _ _ _ (fun z => absurd z.1 (by decide))
def hw_sf (h : hq_H) (a : Nat) : Nat → hq_H
  | 0 => h
  | m + 1 => hq_si (hw_sf h a m) 14 0 (a + m) ((hw_sf h a m).1 14 0 (a + m + 6))
theorem hw_sf_at (h : hq_H) (a s : Nat) : ∀ m, (hw_sf h a m).1 14 0 s = if a ≤ s ∧ s < a + m then h.1 14 0 (s + 6) else h.1 14 0 s
  | 0 => (if_neg (fun z => by omega)).symm
  | m + 1 => by
    have e : (hw_sf h a (m + 1)).1 14 0 = hm_up ((hw_sf h a m).1 14 0) (a + m) ((hw_sf h a m).1 14 0 (a + m + 6)) := hm_row _ _ _
    rw [e]
    by_cases c : s = a + m
    · rw [hm_up_e c, if_pos ⟨by omega, by omega⟩, c, hw_sf_at h a (a + m + 6) m, if_neg (fun z => by omega)]
    · rw [hm_up_n c, hw_sf_at h a s m]
      by_cases l : a ≤ s ∧ s < a + m
      · rw [if_pos l, if_pos ⟨l.1, by omega⟩]
      · rw [if_neg l, if_neg (fun z => l ⟨z.1, by omega⟩)]
theorem hw_sf_rest (h : hq_H) (a : Nat) : ∀ m, hm_rest h (hw_sf h a m) ∧ hw_stay hw_Mo h (hw_sf h a m) ∧ (hw_sf h a m).1 13 0 = h.1 13 0
  | 0 => ⟨hm_rest_rf h, hw_stay_rf, rfl⟩
  | m + 1 => by
    obtain ⟨x, y, z⟩ := hw_sf_rest h a m
    exact ⟨x.trans (hm_rest_14 _ _ _), y.trans (hw_Mo_14 _ _ _), (hm_14_13 _ _ _).trans z⟩
def hm_d1 (h : hq_H) (r : Nat) : hq_H := hq_si h 14 0 4 (h.1 14 0 4 + h.1 14 0 (5 + 6 * r + 5))
def hm_d2 (h : hq_H) (r : Nat) : hq_H := hq_si (hm_d1 h r) 14 0 0 ((hm_d1 h r).1 14 0 0 - 1)
theorem hm_d2_at (h : hq_H) (r s : Nat) : (hm_d2 h r).1 14 0 s = if s = 0 then h.1 14 0 0 - 1 else if s = 4 then h.1 14 0 4 + h.1 14 0 (5 + 6 * r + 5) else h.1 14 0 s := by
  have e2 : (hm_d2 h r).1 14 0 = hm_up ((hm_d1 h r).1 14 0) 0 ((hm_d1 h r).1 14 0 0 - 1) := hm_row _ _ _
  have e1 : (hm_d1 h r).1 14 0 = hm_up (h.1 14 0) 4 (h.1 14 0 4 + h.1 14 0 (5 + 6 * r + 5)) := hm_row _ _ _
  rw [e2, e1]
  by_cases c : s = 0
  · rw [if_pos c, hm_up_e c, hm_up_n (by decide)]
  · rw [if_neg c, hm_up_n c]
    by_cases c4 : s = 4
    · rw [if_pos c4, hm_up_e c4]
    · rw [if_neg c4, hm_up_n c4]
theorem hm_drop_S {h : hq_H} {st : hz_St} {r : Nat} (hn : st.1 ≤ 10) (hr : r < st.1) (H : hm_S (h.1 14 0) st) : hm_S ((hw_sf (hm_d2 h r) (5 + 6 * r) (6 * (st.1 - 1 - r))).1 14 0) (hs_drop st r) ∧ ∀ i, 65 ≤ i → (hw_sf (hm_d2 h r) (5 + 6 * r) (6 * (st.1 - 1 - r))).1 14 0 i = h.1 14 0 i := by
  obtain ⟨a0, a1, a2, a3, a4, a5⟩ := H
  refine ⟨⟨?_, ?_, ?_, ?_, ?_, fun k hk a ha => ?_⟩, fun i hi => ?_⟩
  · rw [hw_sf_at, if_neg (fun z => by omega), hm_d2_at, if_pos rfl, a0]
    obtain ⟨m, hm⟩ : ∃ m, st.1 = m + 1 := ⟨st.1 - 1, by omega⟩
    show nI st.1 - 1 = nI (st.1 - 1)
    rw [hm]
    exact nI_pred m
  · rw [hw_sf_at, if_neg (fun z => by omega), hm_d2_at, if_neg (by decide), if_neg (by decide)]; exact a1
  · rw [hw_sf_at, if_neg (fun z => by omega), hm_d2_at, if_neg (by decide), if_neg (by decide)]; exact a2
  · rw [hw_sf_at, if_neg (fun z => by omega), hm_d2_at, if_neg (by decide), if_neg (by decide)]; exact a3
  · rw [hw_sf_at, if_neg (fun z => by omega), hm_d2_at, if_neg (by decide), if_pos rfl, a4, a5 r hr 5 (by decide)]
    rfl
  · have hk : k < st.1 - 1 := hk
    show _ = (if k < r then st.2.1 k a else st.2.1 (k + 1) a)
    rw [hw_sf_at]
    by_cases c : k < r
    · rw [if_pos c, if_neg (fun z => by omega), hm_d2_at, if_neg (by omega), if_neg (by omega)]
      exact a5 k (by omega) a ha
    · rw [if_neg c, if_pos ⟨by omega, by omega⟩, hm_d2_at, if_neg (by omega), if_neg (by omega), show 5 + 6 * k + a + 6 = 5 + 6 * (k + 1) + a by omega]
      exact a5 (k + 1) (by omega) a ha
  · rw [hw_sf_at, if_neg (fun z => by omega), hm_d2_at, if_neg (by omega), if_neg (by omega)]
theorem r_withdraw (d : Nat) (h : hq_H) (w : hz_W) (R : hm_RM h w) (ok : hz_okW w) (x : Int32) : hm_Ans MX7_withdraw (d + 5) [.inr (13, 0), hz_i x] h hz_IOB (sp_withdraw w x) := by
  have n10 := ok.1.1
  have mr := m_isRule (d + 2) w.1.1 x h R.1.1.1 n10
  unfold sp_withdraw
  cases hx : hz_ix x w.1.1 with
  | none =>
    rw [hx] at mr
    refine hm_no (v := .int 0) R ok (x := 1) (by decide) ?_
    refine inX7_withdraw (d + 4) 0 x h _ _ (fun _ => trivial) (fun J b0 b55 => b0 _ _ _ ?_)
    exact ⟨_, _, mr, _, _, m_goes (d + 3) false true true h, hq_nf rfl ⟨rfl, rfl⟩⟩
  | some k =>
    rw [hx] at mr
    obtain ⟨rfl, hk⟩ := hz_ix_s (by omega) hx
    obtain ⟨h1, m1, R1, s1, t1⟩ := m_saves (d + 2) (hq_si h 13 0 3 0) w (hm_RM_th 0 R ok) ok
    obtain ⟨q1, q2⟩ := hm_drop_S n10 hk R1.1.1
    obtain ⟨r1, r2, r3⟩ := hw_sf_rest (hm_d2 h1 k) (5 + 6 * k) (6 * (w.1.1 - 1 - k))
    refine hm_yes R1 s1 t1 (hz_okW_save ok) ((hm_rest_14 _ _ _).trans ((hm_rest_14 _ _ _).trans r1)) ((hw_Mo_14 _ _ _).trans ((hw_Mo_14 _ _ _).trans r2)) (r3.trans ((hm_14_13 _ _ _).trans (hm_14_13 _ _ _))) q1 q2 ?_
    refine inX7_withdraw (d + 4) 0 (nI k) h _ _ (fun _ => trivial) (fun J b0 b55 => b0 _ _ _ ?_)
    refine ⟨_, _, mr, _, _, m_goes (d + 3) true true true h, hq_nt hz_one0 ?_⟩
    refine ⟨_, m1, ?_⟩
    refine ⟨4, by decide, rfl, ?_⟩
    refine ⟨_, _, m_at (d + 3) k h1, ?_⟩
    refine ⟨5 + 6 * k + 5, by omega, nI_add (5 + 6 * k) 5, ?_⟩
    refine ⟨4, by decide, rfl, 0, by decide, rfl, 0, by decide, rfl, ?_⟩
    refine ⟨_, _, m_at (d + 3) k (hm_d2 h1 k), ?_⟩
    have c0 : ∀ m, (hw_sf (hm_d2 h1 k) (5 + 6 * k) m).1 14 0 0 = nI (w.1.1 - 1) := fun m => by
      rw [hw_sf_at, if_neg (fun z => by omega), hm_d2_at, if_pos rfl, R1.1.1.1]
      obtain ⟨m, hm⟩ : ∃ m, w.1.1 = m + 1 := ⟨w.1.1 - 1, by omega⟩
      show nI w.1.1 - 1 = nI (w.1.1 - 1)
      rw [hm]
      exact nI_pred m
    refine hq_up (P := fun m => J 55 [some (.inr (13, 0)), some (hz_i (nI k)), some (hz_i (nI (5 + 6 * k + m)))] [] (hw_sf (hm_d2 h1 k) (5 + 6 * k) m)) (6 * (w.1.1 - 1 - k)) (b55 _ _ _ ?_) (fun m hm ih => b55 _ _ _ ?_) 0 (Nat.zero_le _)
    · refine ⟨0, by decide, rfl, ?_⟩
      refine ⟨_, _, m_atx (d + 3) (c0 _) _, ?_⟩
      refine hq_bt (nI_le (by omega) (by omega)) ?_
      exact ⟨0, by decide, rfl, hz_ri (c0 _).symm, rfl⟩
    · refine ⟨0, by decide, rfl, ?_⟩
      refine ⟨_, _, m_atx (d + 3) (c0 _) _, ?_⟩
      refine hq_bf (nI_ge (by omega) (by omega)) ?_
      refine ⟨5 + 6 * k + m + 6, by omega, nI_add (5 + 6 * k + m) 6, ?_⟩
      refine ⟨5 + 6 * k + m, by omega, rfl, ?_⟩
      rw [show 5 + 6 * k + (m + 1) = (5 + 6 * k + m) + 1 by omega, nI_succ (5 + 6 * k + m)] at ih
      exact ih
theorem hz_b3 {x : Int32} (h : x = 0 ∨ x = 1) : hz_b (decide (x = 1)) = x := by
  rcases h with h | h
  · rw [h]; rfl
  · rw [h]; rfl
theorem r_setStrict (d : Nat) (h : hq_H) (w : hz_W) (R : hm_RM h w) (ok : hz_okW w) (x : Int32) (b : Bool) : hm_Ans MX7_setStrict (d + 5) [.inr (13, 0), hz_i x, hz_i (hz_b b)] h hz_IOB (sp_setStrict w x b) := by
  have n10 := ok.1.1
  have mr := m_isRule (d + 2) w.1.1 x h R.1.1.1 n10
  unfold sp_setStrict
  cases hx : hz_ix x w.1.1 with
  | none =>
    rw [hx] at mr
    refine hm_no (v := .int 0) R ok (x := 1) (by decide) ?_
    refine inX7_setStrict (d + 4) 0 x _ h _ _ (fun _ => trivial) (fun J b0 b40 => b0 _ _ _ ?_)
    exact ⟨_, _, mr, _, _, m_goes (d + 3) false true true h, hq_nf rfl ⟨Or.inl rfl, rfl, rfl⟩⟩
  | some k =>
    rw [hx] at mr
    obtain ⟨rfl, hk⟩ := hz_ix_s (by omega) hx
    obtain ⟨h1, m1, R1, s1, t1⟩ := m_saves (d + 2) (hq_si h 13 0 3 0) w (hm_RM_th 0 R ok) ok
    have q1 := hm_attr_S (a := 3) (hz_b b) R1.1.1 hk (by decide)
    rw [← hm_row] at q1
    refine hm_yes R1 s1 t1 (hz_okW_save ok) (hm_rest_14 _ _ _) (hw_Mo_14 _ _ _) (hm_14_13 _ _ _) q1 (fun i hi => by rw [hm_row, hm_up_n (by omega)]) ?_
    refine inX7_setStrict (d + 4) 0 (nI k) _ h _ _ (fun _ => trivial) (fun J b0 b40 => b0 _ _ _ ?_)
    refine ⟨_, _, mr, _, _, m_goes (d + 3) true true true h, hq_nt hz_one0 ?_⟩
    refine ⟨_, m1, ?_⟩
    refine ⟨_, _, m_at (d + 3) k h1, ?_⟩
    refine ⟨5 + 6 * k + 3, by omega, nI_add (5 + 6 * k) 3, ?_⟩
    have e3 : h1.1 14 0 (5 + 6 * k + 3) = w.1.2.1 k 3 := R1.1.1.2.2.2.2.2 k hk 3 (by decide)
    have z3 := ok.1.s k hk
    have t40 : J 40 [some (.inr (13, 0)), some (hz_i (nI k)), some (hz_i (hz_b b)), none] [hz_i (w.1.2.1 k 3)] h1 := by
      refine b40 _ _ _ ?_
      refine ⟨_, _, m_at (d + 3) k h1, ?_⟩
      have fz : w.1.2.1 k 3 = 0 ∨ w.1.2.1 k 3 = 1 := z3
      cases b with
      | false => exact hq_bt rfl ⟨5 + 6 * k + 3, by omega, nI_add (5 + 6 * k) 3, fz, rfl, rfl⟩
      | true => exact hq_bf hz_one0 ⟨5 + 6 * k + 3, by omega, nI_add (5 + 6 * k) 3, fz, rfl, rfl⟩
    refine hq_nc (fun c => ?_) (fun c => ?_)
    · have c : ¬ h1.1 14 0 (5 + 6 * k + 3) = 1 := c
      rw [e3] at c
      rw [z3.resolve_right c] at t40
      exact t40
    · have c : h1.1 14 0 (5 + 6 * k + 3) = 1 := c
      rw [e3] at c
      rw [c] at t40
      exact t40
theorem m_waives (d k : Nat) (days : Int32) (h : hq_H) (st : hz_St) (H : hm_S (h.1 14 0) st) (hn : st.1 ≤ 10) (hk : k < st.1) : hq_Met (d + 2) MX7_waives [.inr (13, 0), hz_i (nI k), hz_i days] h (hz_o (st.2.2.2.1 + days)) (hq_si h 14 0 (5 + 6 * k + 4) (st.2.2.2.1 + days)) := by
  have e2 : h.1 14 0 2 = st.2.2.2.1 := H.2.2.1
  rw [← e2]
  refine inX7_waives (d + 1) 0 (nI k) days h _ _ (fun _ => trivial) (fun J b0 => b0 _ _ _ ?_)
  refine ⟨_, _, m_at d k h, ?_⟩
  refine ⟨2, by decide, rfl, ?_⟩
  refine ⟨5 + 6 * k + 4, by omega, nI_add (5 + 6 * k) 4, ?_⟩
  refine ⟨_, _, m_at d k _, ?_⟩
  refine ⟨5 + 6 * k + 4, by omega, nI_add (5 + 6 * k) 4, ?_⟩
  refine ⟨hz_ri ?_, rfl⟩
  show h.1 14 0 2 + days = (hq_si h 14 0 (5 + 6 * k + 4) (h.1 14 0 2 + days)).1 14 0 (5 + 6 * k + 4)
  rw [hm_row, hm_up_s]
theorem r_waive (d : Nat) (h : hq_H) (w : hz_W) (R : hm_RM h w) (ok : hz_okW w) (x days : Int32) : hm_Ans MX7_waive (d + 5) [.inr (13, 0), hz_i x, hz_i days] h hz_IOB (sp_waive w x days) := by
  have n10 := ok.1.1
  have mr := m_isRule (d + 2) w.1.1 x h R.1.1.1 n10
  unfold sp_waive
  cases hx : hz_ix x w.1.1 with
  | none =>
    rw [hx] at mr
    refine hm_no (v := .int 0) R ok (x := 1) (by decide) ?_
    refine inX7_waive (d + 4) 0 x days h _ _ (fun _ => trivial) (fun J b0 => b0 _ _ _ ?_)
    exact ⟨_, _, mr, _, _, m_in (d + 3) days 0 30 h, _, _, m_goes (d + 3) false _ true h, hq_nf rfl ⟨rfl, rfl⟩⟩
  | some k =>
    rw [hx] at mr
    obtain ⟨rfl, hk⟩ := hz_ix_s (by omega) hx
    dsimp only
    by_cases c : 0 ≤ days ∧ days ≤ 30
    · rw [if_pos c]
      have md := m_in (d + 3) days 0 30 h
      rw [decide_eq_true c.1, decide_eq_true c.2] at md
      obtain ⟨h1, m1, R1, s1, t1⟩ := m_saves (d + 2) (hq_si h 13 0 3 0) w (hm_RM_th 0 R ok) ok
      have q1 := hm_attr_S (a := 4) (w.1.2.2.2.1 + days) R1.1.1 hk (by decide)
      rw [← hm_row] at q1
      refine hm_yes R1 s1 t1 (hz_okW_save ok) (hm_rest_14 _ _ _) (hw_Mo_14 _ _ _) (hm_14_13 _ _ _) q1 (fun i hi => by rw [hm_row, hm_up_n (by omega)]) ?_
      refine inX7_waive (d + 4) 0 (nI k) days h _ _ (fun _ => trivial) (fun J b0 => b0 _ _ _ ?_)
      refine ⟨_, _, mr, _, _, md, _, _, m_goes (d + 3) true true true h, hq_nt hz_one0 ?_⟩
      exact ⟨_, m1, _, _, m_waives (d + 2) k days h1 w.1 R1.1.1 n10 hk, rfl, rfl⟩
    · rw [if_neg c]
      have md := m_in (d + 3) days 0 30 h
      rw [show (decide (0 ≤ days) && decide (days ≤ 30)) = false from ts_nt (fun z => c (by
        rw [Bool.and_eq_true, decide_eq_true_iff, decide_eq_true_iff] at z
        exact z))] at md
      refine hm_no (v := .int 0) R ok (x := 2) (by decide) ?_
      refine inX7_waive (d + 4) 0 (nI k) days h _ _ (fun _ => trivial) (fun J b0 => b0 _ _ _ ?_)
      exact ⟨_, _, mr, _, _, md, _, _, m_goes (d + 3) true false true h, hq_nf rfl ⟨rfl, rfl⟩⟩
-- ===== the reference: guests and nights =====
theorem hz_tstN {g k : Nat} (hg : g < 2 ^ 31) (hk : k < 31) : hz_tst (nI g) (nI k) = g.testBit k := by
  unfold hz_tst
  cases t : g.testBit k with
  | true => rw [decide_eq_false (hz_bitn hg hk t)]; rfl
  | false => rw [decide_eq_true (hz_bit0 hg hk t)]; rfl
theorem m_turns (d : Nat) (room : Int32) (h : hq_H) (st : hz_St) (H : hm_S (h.1 14 0) st) : hq_Met (d + 1) MX7_turns [.inr (13, 0), hz_i room] h (hz_o (hs_turn st room).2.2.1) (hq_si h 14 0 1 (hs_turn st room).2.2.1) := by
  have e : (hs_turn st room).2.2.1 = h.1 14 0 1 ^^^ ((1 : Int32) <<< (room &&& 31)) := by
    rw [H.2.1]
    rfl
  rw [e]
  refine inX7_turns d 0 room h _ _ (fun _ => trivial) (fun J b0 => b0 _ _ _ ?_)
  refine ⟨1, by decide, rfl, 1, by decide, rfl, 1, by decide, rfl, ?_⟩
  refine ⟨hz_ri ?_, rfl⟩
  show _ = (hq_si h 14 0 1 (h.1 14 0 1 ^^^ ((1 : Int32) <<< (room &&& 31)))).1 14 0 1
  rw [hm_row, hm_up_s]
theorem hm_turn_S {f : Nat → Int32} {st : hz_St} (room : Int32) (H : hm_S f st) : hm_S (hm_up f 1 (hs_turn st room).2.2.1) (hs_turn st room) := by
  obtain ⟨a0, a1, a2, a3, a4, a5⟩ := H
  refine ⟨?_, hm_up_s _ _ _, ?_, ?_, ?_, fun k hk b hb => ?_⟩
  · rw [hm_up_n (by omega)]; exact a0
  · rw [hm_up_n (by omega)]; exact a2
  · rw [hm_up_n (by omega)]; exact a3
  · rw [hm_up_n (by omega)]; exact a4
  · rw [hm_up_n (by omega)]
    exact a5 k hk b hb
theorem m_isLet (d k : Nat) (h : hq_H) (st : hz_St) (H : hm_S (h.1 14 0) st) (hok : hz_okS st) (hk : k < 6) : hq_Met (d + 2) MX7_isLet [.inr (13, 0), hz_i (nI k)] h (hz_o (hz_b (hz_tst st.2.2.1 (nI k)))) h := by
  obtain ⟨g1, g2⟩ := hz_g_is hok
  rw [g1, hz_tstN (by omega) (by omega)]
  refine inX7_isLet (d + 1) 0 (nI k) h _ _ (fun _ => trivial) (fun J b0 => b0 _ _ _ ?_)
  refine ⟨1, by decide, rfl, ?_⟩
  exact ⟨_, _, m_isIn d h (H.2.1.trans g1) rfl (by omega) (by omega), hz_bz _, rfl, rfl⟩
def hm_AnsI (M : hq_M) (d : Nat) (args : List hq_V) (h : hq_H) (E1 : String) (X : hz_X) : Prop := ∃ h' x, hq_Met d M args h (hz_o x) h' ∧ hm_RM h' X.2 ∧ hw_stay hw_Mo h h' ∧ hm_ans (h'.1 13 0 3) (.int x) E1 X.1
theorem hm_noI {M : hq_M} {d : Nat} {args : List hq_V} {h : hq_H} {E1 E : String} {w : hz_W} {v x : Int32} (R : hm_RM h w) (ok : hz_okW w) (hx : x = if E = E1 then 1 else 2) (m : hq_Met d M args h (hz_o v) (hq_si h 13 0 3 x)) : hm_AnsI M d args h E1 (.inr E, w) :=
  ⟨_, v, m, hm_RM_th x R ok, hw_Mo_13 h 3 x, ⟨by rw [hm_th1]; exact hx, _, rfl⟩⟩
theorem hm_yesI {M : hq_M} {d : Nat} {args : List hq_V} {h h1 h' : hq_H} {E1 : String} {w : hz_W} {st : hz_St} {v : Int32} (R1 : hm_RM h1 (w.1, w.2.1, hs_save w.2.2.1 w.1, w.2.2.2)) (s1 : hw_stay hw_Mo (hq_si h 13 0 3 0) h1) (t1 : h1.1 13 0 3 = (hq_si h 13 0 3 0).1 13 0 3) (okw : hz_okW (w.1, w.2.1, hs_save w.2.2.1 w.1, w.2.2.2)) (r : hm_rest h1 h') (s2 : hw_stay hw_Mo h1 h') (t2 : h'.1 13 0 = h1.1 13 0) (hS : hm_S (h'.1 14 0) st) (hs : ∀ i, 65 ≤ i → h'.1 14 0 i = h1.1 14 0 i) (m : hq_Met d M args h (hz_o v) h') : hm_AnsI M d args h E1 (hz_o v, sp_saved w st) := by
  refine ⟨h', v, m, hm_RM_now R1 okw r hS hs (by rw [t2]), (hw_Mo_13 h 3 0).trans (s1.trans s2), ?_, rfl⟩
  rw [t2, t1, hm_th1]
theorem r_move (d : Nat) (h : hq_H) (w : hz_W) (R : hm_RM h w) (ok : hz_okW w) (x : Int32) (fl : Bool) : hm_AnsI MX7_turnsIf (d + 5) [.inr (13, 0), hz_i x, hz_i (hz_b fl)] h hz_IOB (sp_move w x fl) := by
  have n10 := ok.1.1
  have mr := m_isRoom (d + 2) x h
  unfold sp_move
  cases hx : hz_ix x 6 with
  | none =>
    rw [hx] at mr
    refine hm_noI (v := 0) R ok (x := 1) (by decide) ?_
    refine inX7_turnsIf (d + 4) 0 x _ h _ _ (fun _ => trivial) (fun J b0 b33 => b0 _ _ _ ?_)
    refine ⟨_, _, mr, hq_bt rfl (b33 _ _ _ ?_)⟩
    exact ⟨_, _, m_goes (d + 3) false false true h, hq_nf rfl ⟨rfl, rfl⟩⟩
  | some k =>
    rw [hx] at mr
    obtain ⟨rfl, hk⟩ := hz_ix_s (by omega) hx
    dsimp only
    have ng : hz_rfs w.1 (nI k) < 0 ↔ hz_rfs w.1 (nI k) = -1 := hz_lo_neg (by omega)
    by_cases c : ((hz_tst w.1.2.2.1 (nI k) == fl) && decide (hz_rfs w.1 (nI k) = -1)) = true
    · rw [if_pos c]
      rw [Bool.and_eq_true, beq_iff_eq, decide_eq_true_iff] at c
      obtain ⟨h1, m1, R1, s1, t1⟩ := m_saves (d + 2) (hq_si h 13 0 3 0) w (hm_RM_th 0 R ok) ok
      have q1 := hm_turn_S (nI k) R1.1.1
      rw [← hm_row] at q1
      refine hm_yesI R1 s1 t1 (hz_okW_save ok) (hm_rest_14 _ _ _) (hw_Mo_14 _ _ _) (hm_14_13 _ _ _) q1 (fun i hi => by rw [hm_row, hm_up_n (by omega)]) ?_
      refine inX7_turnsIf (d + 4) 0 (nI k) _ h _ _ (fun _ => trivial) (fun J b0 b33 => b0 _ _ _ ?_)
      refine ⟨_, _, mr, hq_bf hz_one0 ?_⟩
      refine ⟨_, _, m_isLet (d + 2) k h w.1 R.1.1 ok.1 hk, ?_⟩
      rw [c.1]
      refine hq_nf rfl ?_
      refine ⟨_, _, m_ref (d + 1) (nI k) h w.1 R.1.1 n10, ?_⟩
      refine hq_bf (fun z => Int32.not_lt.mpr z (ng.mpr c.2)) (b33 _ _ _ ?_)
      refine ⟨_, _, m_goes (d + 3) true true true h, hq_nt hz_one0 ?_⟩
      exact ⟨_, m1, _, _, m_turns (d + 3) (nI k) h1 w.1 R1.1.1, rfl, rfl⟩
    · rw [if_neg c]
      refine hm_noI (v := 0) R ok (x := 2) (by decide) ?_
      refine inX7_turnsIf (d + 4) 0 (nI k) _ h _ _ (fun _ => trivial) (fun J b0 b33 => b0 _ _ _ ?_)
      have no : J 33 [some (.inr (13, 0)), some (hz_i (nI k)), some (hz_i (hz_b fl)), some (hz_i 1)] [hz_i 0, hz_i 1, .inr (13, 0)] h := b33 _ _ _ ⟨_, _, m_goes (d + 3) true false true h, hq_nf rfl ⟨rfl, rfl⟩⟩
      refine ⟨_, _, mr, hq_bf hz_one0 ?_⟩
      refine ⟨_, _, m_isLet (d + 2) k h w.1 R.1.1 ok.1 hk, ?_⟩
      refine hq_nc (fun _ => no) (fun c1 => ?_)
      have c1 : hz_tst w.1.2.2.1 (nI k) = fl := by
        have c1 : hz_b (hz_tst w.1.2.2.1 (nI k)) = hz_b fl := c1
        revert c1
        cases hz_tst w.1.2.2.1 (nI k) <;> cases fl <;> decide
      refine ⟨_, _, m_ref (d + 1) (nI k) h w.1 R.1.1 n10, ?_⟩
      refine hq_bc (fun _ => no) (fun c2 => absurd ?_ c)
      rw [c1, decide_eq_true (ng.mp (Int32.not_le.mp c2))]
      cases fl <;> rfl
theorem r_come (d : Nat) (h : hq_H) (w : hz_W) (R : hm_RM h w) (ok : hz_okW w) (x : Int32) : hm_Ans MX7_come (d + 6) [.inr (13, 0), hz_i x] h hz_IOB (sp_move w x false) := by
  obtain ⟨h', v, m, r⟩ := r_move d h w R ok x false
  refine ⟨h', _, inX7_come (d + 5) 0 x h (hz_o v) h' (fun _ => trivial) (fun J b0 => b0 _ _ _ ?_), r⟩
  exact ⟨_, _, m, rfl, rfl⟩
theorem r_go (d : Nat) (h : hq_H) (w : hz_W) (R : hm_RM h w) (ok : hz_okW w) (x : Int32) : hm_Ans MX7_go (d + 6) [.inr (13, 0), hz_i x] h hz_IOB (sp_move w x true) := by
  obtain ⟨h', v, m, r⟩ := r_move d h w R ok x true
  refine ⟨h', _, inX7_go (d + 5) 0 x h (hz_o v) h' (fun _ => trivial) (fun J b0 => b0 _ _ _ ?_), r⟩
  exact ⟨_, _, m, rfl, rfl⟩
