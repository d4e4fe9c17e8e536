-- ===== the reference: what its calls answer =====
def hm_ans (t : Int32) (v : Value) (E1 : String) (r : hq_R) : Prop := match r with
  | .inl (some (.inl x)) => t = 0 ∧ v = x
  | .inr E => (t = if E = E1 then 1 else 2) ∧ ∃ x : Int32, v = .int x
  | _ => False
def hm_Ans (M : hq_M) (d : Nat) (args : List hq_V) (h : hq_H) (E1 : String) (X : hz_X) : Prop := ∃ h' v, hq_Met d M args h (.inl (some (.inl v))) h' ∧ hm_RM h' X.2 ∧ hw_stay hw_Mo h h' ∧ hm_ans (h'.1 13 0 3) v E1 X.1
theorem hm_ix_in {x : Int32} {n m : Nat} (h : m + 1 = n) (hn : n < 2 ^ 31) : (decide (0 ≤ x) && decide (x ≤ nI m)) = (hz_ix x n).isSome := by
  unfold hz_ix
  by_cases c : 0 ≤ x
  · obtain ⟨j, hj, rfl⟩ := nI_of (Int32.not_lt.mpr c)
    rw [decide_eq_true c, Bool.true_and]
    by_cases l : j < n
    · rw [decide_eq_true (nI_le (by omega) (by omega)), if_pos ⟨c, nI_lt l hn⟩]
      rfl
    · rw [decide_eq_false (nI_ge (by omega) hj), if_neg (fun z => nI_nlt (by omega) hj z.2)]
      rfl
  · rw [decide_eq_false c, if_neg (fun z => c z.1)]
    rfl
theorem m_isRule (d n : Nat) (x : Int32) (h : hq_H) (hc : h.1 14 0 0 = nI n) (hn : n ≤ 10) : hq_Met (d + 2) MX7_isRule [.inr (13, 0), hz_i x] h (hz_o (hz_b (hz_ix x n).isSome)) h := by
  have e : (decide (0 ≤ x) && decide (x ≤ h.1 14 0 0 - 1)) = (hz_ix x n).isSome := by
    rw [hc]
    cases n with
    | zero =>
      unfold hz_ix
      rw [if_neg (fun z => Int32.not_lt.mpr z.1 z.2)]
      by_cases c : 0 ≤ x
      · rw [decide_eq_true c, decide_eq_false (fun z => absurd (Int32.le_trans c z) (by decide))]
        rfl
      · rw [decide_eq_false c]
        rfl
    | succ n =>
      rw [nI_pred]
      exact hm_ix_in rfl (by omega)
  rw [← e]
  refine inX7_isRule (d + 1) 0 x h _ _ (fun _ => trivial) (fun J b0 => b0 _ _ _ ?_)
  refine ⟨0, by decide, rfl, ?_⟩
  exact ⟨_, _, m_in d x 0 _ h, hz_bz _, rfl, rfl⟩
theorem m_isRoom (d : Nat) (x : Int32) (h : hq_H) : hq_Met (d + 2) MX7_isRoom [hz_i x] h (hz_o (hz_b (hz_ix x 6).isSome)) h := by
  have e : (decide (0 ≤ x) && decide (x ≤ 5)) = (hz_ix x 6).isSome := hm_ix_in (m := 5) rfl (by decide)
  rw [← e]
  refine inX7_isRoom (d + 1) x h _ _ (fun _ => trivial) (fun J b0 => b0 _ _ _ ?_)
  exact ⟨_, _, m_in d x 0 5 h, hz_bz _, rfl, rfl⟩
theorem hm_nn_in (x : Int32) : (decide (1 ≤ x) && decide (x ≤ 30)) = (hz_nn x).isSome := by
  unfold hz_nn
  by_cases c : 1 ≤ x ∧ x ≤ 30
  · rw [if_pos c, decide_eq_true c.1, decide_eq_true c.2]
    rfl
  · rw [if_neg c]
    by_cases c1 : 1 ≤ x
    · rw [decide_eq_true c1, decide_eq_false (fun z => c ⟨c1, z⟩)]
      rfl
    · rw [decide_eq_false c1]
      rfl
theorem m_areRules (d n : Nat) (x : Int32) (h : hq_H) (hc : h.1 14 0 0 = nI n) (hn : n ≤ 10) : hq_Met (d + 1) MX7_areRules [.inr (13, 0), hz_i x] h (hz_o (hz_b (hz_ix x (2 ^ n)).isSome)) h := by
  have e2 : (1 : Int32) <<< (h.1 14 0 0 &&& 31) = nI (2 ^ n) := by rw [hc, hz_pwn hn]
  refine inX7_areRules d 0 x h _ _ (fun _ => trivial) (fun J b0 => b0 _ _ _ ?_)
  unfold hz_ix
  refine hq_bc (fun c => ?_) (fun c => ?_)
  · rw [if_neg (fun z => Int32.not_lt.mpr z.1 c)]
    exact ⟨Or.inl rfl, rfl, rfl⟩
  · refine ⟨0, by decide, rfl, ?_⟩
    refine hq_bc (fun c2 => ?_) (fun c2 => ?_)
    · have c2 : (1 : Int32) <<< (h.1 14 0 0 &&& 31) ≤ x := c2
      rw [e2] at c2
      rw [if_neg (fun z => Int32.not_lt.mpr c2 z.2)]
      exact ⟨Or.inl rfl, rfl, rfl⟩
    · have c2 : ¬ (1 : Int32) <<< (h.1 14 0 0 &&& 31) ≤ x := c2
      rw [e2] at c2
      rw [if_pos ⟨Int32.not_lt.mp c, Int32.not_le.mp c2⟩]
      exact ⟨Or.inr rfl, rfl, rfl⟩
theorem hm_RM_th {h : hq_H} {w : hz_W} (x : Int32) (R : hm_RM h w) (ok : hz_okW w) : hm_RM (hq_si h 13 0 3 x) w := by
  have e : (hq_si h 13 0 3 x).1 14 0 = h.1 14 0 := hq_si_o _ _ _ (fun z => absurd z.1 (by decide))
  obtain ⟨a, b, c⟩ := R.2.2.1
  refine hm_RM_rest (v := w.2.2.1) R (hm_rest_f h (Or.inr rfl) x) ?_ (Or.inr (fun i _ => ?_)) ok ⟨a, ?_, fun i hi => ?_⟩
  · rw [e]
    exact R.1.1
  · show (hq_si h 13 0 3 x).1 14 0 _ = h.1 14 0 _
    rw [e]
  · rw [hq_si_at, if_neg (fun z => absurd z.2.1 (by decide))]
    exact b
  · have e2 : hm_slot (hq_si h 13 0 3 x) (i + 1) = hm_slot h (i + 1) := by
      unfold hm_slot
      rw [e]
    rw [e2]
    exact c i hi
theorem hm_RM_now {h h' : hq_H} {w : hz_W} {st : hz_St} (R : hm_RM h w) (ok : hz_okW w) (r : hm_rest h h') (hS : hm_S (h'.1 14 0) st) (hs : ∀ i, 65 ≤ i → h'.1 14 0 i = h.1 14 0 i) (h1 : h'.1 13 0 1 = h.1 13 0 1) : hm_RM h' (st, w.2) := by
  obtain ⟨a, b, c⟩ := R.2.2.1
  refine hm_RM_rest (v := w.2.2.1) R r hS (Or.inr (fun i _ => hs _ (by omega))) ok ⟨a, h1.trans b, fun i hi => ?_⟩
  exact hm_S_cong (ok.2.2.1.2 i hi).1 (fun j _ => hs _ (by omega)) (c i hi)
theorem hm_th1 (h : hq_H) (x : Int32) : (hq_si h 13 0 3 x).1 13 0 3 = x := by rw [hq_si_at, if_pos ⟨rfl, rfl, rfl⟩]
/-- a call that is refused -/
theorem hm_no {M : hq_M} {d : Nat} {args : List hq_V} {h : hq_H} {E1 E : String} {w : hz_W} {v : Value} {x : Int32} (R : hm_RM h w) (ok : hz_okW w) (hx : x = if E = E1 then 1 else 2) (m : hq_Met d M args h (.inl (some (.inl v))) (hq_si h 13 0 3 x)) (hv : ∃ z : Int32, v = .int z := by exact ⟨_, rfl⟩) : hm_Ans M d args h E1 (.inr E, w) :=
  ⟨_, v, m, hm_RM_th x R ok, hw_Mo_13 h 3 x, ⟨by rw [hm_th1]; exact hx, hv⟩⟩
/-- a saved call -/
theorem hm_yes {M : hq_M} {d : Nat} {args : List hq_V} {h h1 h' : hq_H} {E1 : String} {w : hz_W} {st : hz_St} {v : Value} (R1 : hm_RM h1 (w.1, w.2.1, hs_save w.2.2.1 w.1, w.2.2.2)) (s1 : hw_stay hw_Mo (hq_si h 13 0 3 0) h1) (t1 : h1.1 13 0 3 = (hq_si h 13 0 3 0).1 13 0 3) (okw : hz_okW (w.1, w.2.1, hs_save w.2.2.1 w.1, w.2.2.2)) (r : hm_rest h1 h') (s2 : hw_stay hw_Mo h1 h') (t2 : h'.1 13 0 = h1.1 13 0) (hS : hm_S (h'.1 14 0) st) (hs : ∀ i, 65 ≤ i → h'.1 14 0 i = h1.1 14 0 i) (m : hq_Met d M args h (.inl (some (.inl v))) h') : hm_Ans M d args h E1 (.inl (some (.inl v)), sp_saved w st) := by
  refine ⟨h', v, m, hm_RM_now R1 okw r hS hs (by rw [t2]), (hw_Mo_13 h 3 0).trans (s1.trans s2), ?_, rfl⟩
  rw [t2, t1, hm_th1]
theorem hz_okW_save {w : hz_W} (ok : hz_okW w) : hz_okW (w.1, w.2.1, hs_save w.2.2.1 w.1, w.2.2.2) := by
  refine ⟨ok.1, ok.2.1, ?_, ok.2.2.2⟩
  show (hs_save w.2.2.1 w.1).1 ≤ 6 ∧ ∀ i, i < (hs_save w.2.2.1 w.1).1 → hz_okS ((hs_save w.2.2.1 w.1).2 i)
  obtain ⟨a, b⟩ := ok.2.2.1
  unfold hs_save
  by_cases c : w.2.2.1.1 < 6
  · rw [if_pos c]
    refine ⟨show w.2.2.1.1 + 1 ≤ 6 by omega, fun i hi => ?_⟩
    have hi : i < w.2.2.1.1 + 1 := hi
    show hz_okS (if i = w.2.2.1.1 then w.1 else w.2.2.1.2 i)
    by_cases e : i = w.2.2.1.1
    · rw [if_pos e]; exact ok.1
    · rw [if_neg e]; exact b i (by omega)
  · rw [if_neg c]
    refine ⟨a, fun i hi => ?_⟩
    have hi : i < w.2.2.1.1 := hi
    show hz_okS (if i = 5 then w.1 else w.2.2.1.2 (i + 1))
    by_cases e : i = 5
    · rw [if_pos e]; exact ok.1
    · rw [if_neg e]; exact b (i + 1) (by omega)
-- ===== a rule made =====
def hm_mk6 (h : hq_H) (p : Nat) (f l e : Int32) : hq_H := hq_si (hq_si (hq_si (hq_si (hq_si (hq_si h 14 0 p l) 14 0 (p + 1) e) 14 0 (p + 2) f) 14 0 (p + 3) 0) 14 0 (p + 4) 0) 14 0 (p + 5) 0
def hm_mkh (h : hq_H) (p : Nat) (f l e : Int32) : hq_H := hq_si (hm_mk6 h p f l e) 14 0 0 ((hm_mk6 h p f l e).1 14 0 0 + 1)
theorem hm_mk6_row (h : hq_H) (p : Nat) (f l e : Int32) : (hm_mk6 h p f l e).1 14 0 = hm_up (hm_up (hm_up (hm_up (hm_up (hm_up (h.1 14 0) p l) (p + 1) e) (p + 2) f) (p + 3) 0) (p + 4) 0) (p + 5) 0 := by
  unfold hm_mk6
  rw [hm_row, hm_row, hm_row, hm_row, hm_row, hm_row]
theorem hm_mkh_rest (h : hq_H) (p : Nat) (f l e : Int32) : hm_rest h (hm_mkh h p f l e) ∧ hw_stay hw_Mo h (hm_mkh h p f l e) ∧ (hm_mkh h p f l e).1 13 0 = h.1 13 0 := by
  refine ⟨?_, ?_, ?_⟩
  · exact (hm_rest_14 _ _ _).trans ((hm_rest_14 _ _ _).trans ((hm_rest_14 _ _ _).trans ((hm_rest_14 _ _ _).trans ((hm_rest_14 _ _ _).trans ((hm_rest_14 _ _ _).trans (hm_rest_14 _ _ _))))))
  · exact (hw_Mo_14 _ _ _).trans ((hw_Mo_14 _ _ _).trans ((hw_Mo_14 _ _ _).trans ((hw_Mo_14 _ _ _).trans ((hw_Mo_14 _ _ _).trans ((hw_Mo_14 _ _ _).trans (hw_Mo_14 _ _ _))))))
  · unfold hm_mkh hm_mk6
    rw [hq_si_o _ _ _ (fun z => absurd z.1 (by decide)), hq_si_o _ _ _ (fun z => absurd z.1 (by decide)), hq_si_o _ _ _ (fun z => absurd z.1 (by decide)), hq_si_o _ _ _ (fun z => absurd z.1 (by decide)), hq_si_o _ _ _ (fun z => absurd z.1 (by decide)), hq_si_o _ _ _ (fun z => absurd z.1 (by decide)), hq_si_o _ _ _ (fun z => absurd z.1 (by decide))]
theorem hm_mkh_S {h : hq_H} {st : hz_St} (f l e : Int32) (H : hm_S (h.1 14 0) st) (hn : st.1 < 10) : hm_S ((hm_mkh h (5 + 6 * st.1) f l e).1 14 0) (hs_add st f l e) ∧ ∀ i, 65 ≤ i → (hm_mkh h (5 + 6 * st.1) f l e).1 14 0 i = h.1 14 0 i := by
  obtain ⟨a0, a1, a2, a3, a4, a5⟩ := H
  have lo : ∀ i, i < 5 + 6 * st.1 → (hm_mk6 h (5 + 6 * st.1) f l e).1 14 0 i = h.1 14 0 i := fun i hi => by
    rw [hm_mk6_row, hm_up_n (by omega), hm_up_n (by omega), hm_up_n (by omega), hm_up_n (by omega), hm_up_n (by omega), hm_up_n (by omega)]
  have r : (hm_mkh h (5 + 6 * st.1) f l e).1 14 0 = hm_up ((hm_mk6 h (5 + 6 * st.1) f l e).1 14 0) 0 ((hm_mk6 h (5 + 6 * st.1) f l e).1 14 0 0 + 1) := hm_row _ _ _
  rw [r]
  refine ⟨⟨?_, ?_, ?_, ?_, ?_, fun k hk a ha => ?_⟩, fun i hi => ?_⟩
  · rw [hm_up_s, lo 0 (by omega), a0]
    exact (nI_succ _).symm
  · rw [hm_up_n (by omega), lo 1 (by omega)]; exact a1
  · rw [hm_up_n (by omega), lo 2 (by omega)]; exact a2
  · rw [hm_up_n (by omega), lo 3 (by omega)]; exact a3
  · rw [hm_up_n (by omega), lo 4 (by omega)]; exact a4
  · have hk : k < st.1 + 1 := hk
    show _ = (if k = st.1 then hs_row f l e a else st.2.1 k a)
    rw [hm_up_n (by omega)]
    by_cases e1 : k = st.1
    · rw [if_pos e1, e1, hm_mk6_row]
      match a, ha with
      | 0, _ =>
        rw [hm_up_n (by omega), hm_up_n (by omega), hm_up_n (by omega), hm_up_n (by omega), hm_up_n (by omega), hm_up_e (by omega)]
        rfl
      | 1, _ =>
        rw [hm_up_n (by omega), hm_up_n (by omega), hm_up_n (by omega), hm_up_n (by omega), hm_up_e (by omega)]
        rfl
      | 2, _ =>
        rw [hm_up_n (by omega), hm_up_n (by omega), hm_up_n (by omega), hm_up_e (by omega)]
        rfl
      | 3, _ =>
        rw [hm_up_n (by omega), hm_up_n (by omega), hm_up_e (by omega)]
        rfl
      | 4, _ =>
        rw [hm_up_n (by omega), hm_up_e (by omega)]
        rfl
      | 5, _ =>
        rw [hm_up_e (by omega)]
        rfl
      | a + 6, ha => omega
    · rw [if_neg e1, lo _ (by omega)]
      exact a5 k (by omega) a ha
  · rw [hm_up_n (by omega), hm_mk6_row, hm_up_n (by omega), hm_up_n (by omega), hm_up_n (by omega), hm_up_n (by omega), hm_up_n (by omega), hm_up_n (by omega)]
theorem m_makes (d : Nat) (f l e : Int32) (h : hq_H) (n : Nat) (hc : h.1 14 0 0 = nI n) (hn : n < 10) : hq_Met (d + 2) MX7_makes [.inr (13, 0), hz_i f, hz_i l, hz_i e] h (hz_o (nI n)) (hm_mkh h (5 + 6 * n) f l e) := by
  refine inX7_makes (d + 1) 0 f l e h _ _ (fun _ => trivial) (fun J b0 => b0 _ _ _ ?_)
  refine ⟨0, by decide, rfl, ?_⟩
  refine ⟨_, _, m_atx d hc h, ?_⟩
  refine ⟨5 + 6 * n, by omega, rfl, ?_⟩
  refine ⟨5 + 6 * n + 1, by omega, nI_add (5 + 6 * n) 1, ?_⟩
  refine ⟨5 + 6 * n + 2, by omega, nI_add (5 + 6 * n) 2, ?_⟩
  refine ⟨5 + 6 * n + 3, by omega, nI_add (5 + 6 * n) 3, ?_⟩
  refine ⟨5 + 6 * n + 4, by omega, nI_add (5 + 6 * n) 4, ?_⟩
  refine ⟨5 + 6 * n + 5, by omega, nI_add (5 + 6 * n) 5, ?_⟩
  refine ⟨0, by decide, rfl, 0, by decide, rfl, 0, by decide, rfl, ?_⟩
  refine ⟨hz_ri ?_, rfl⟩
  have q : (hm_mkh h (5 + 6 * n) f l e).1 14 0 0 = nI (n + 1) := by
    have r : (hm_mkh h (5 + 6 * n) f l e).1 14 0 = hm_up ((hm_mk6 h (5 + 6 * n) f l e).1 14 0) 0 ((hm_mk6 h (5 + 6 * n) f l e).1 14 0 0 + 1) := hm_row _ _ _
    rw [r, hm_up_s, hm_mk6_row, hm_up_n (by omega), hm_up_n (by omega), hm_up_n (by omega), hm_up_n (by omega), hm_up_n (by omega), hm_up_n (by omega), hc]
    exact (nI_succ _).symm
  show nI n = (hm_mkh h (5 + 6 * n) f l e).1 14 0 0 - 1
  rw [q, nI_pred]
def hm_msk (l e : Int32) : Bool := (decide (0 ≤ l) && decide (l ≤ 63)) && ((decide (0 ≤ e) && decide (e ≤ 63)) && (decide (l &&& e = 0) && !decide (l ||| e = 0)))
theorem m_masks (d : Nat) (l e : Int32) (h : hq_H) : hq_Met (d + 2) MX7_areMasks [hz_i l, hz_i e] h (hz_o (hz_b (hm_msk l e))) h := by
  refine inX7_areMasks (d + 1) l e h _ _ (fun _ => trivial) (fun J b0 => b0 _ _ _ ?_)
  refine ⟨_, _, m_in d l 0 63 h, ?_⟩
  unfold hm_msk
  cases (decide (0 ≤ l) && decide (l ≤ 63)) with
  | false => exact hq_bt rfl ⟨Or.inl rfl, rfl, rfl⟩
  | true =>
    refine hq_bf hz_one0 ?_
    refine ⟨_, _, m_in d e 0 63 h, ?_⟩
    cases (decide (0 ≤ e) && decide (e ≤ 63)) with
    | false => exact hq_bt rfl ⟨Or.inl rfl, rfl, rfl⟩
    | true =>
      refine hq_bf hz_one0 ?_
      refine hq_nc (fun c => ?_) (fun c => ?_)
      · rw [decide_eq_false (show ¬ l &&& e = 0 from c)]
        exact ⟨Or.inl rfl, rfl, rfl⟩
      · rw [decide_eq_true (show l &&& e = 0 from c)]
        refine hq_bc (fun c2 => ?_) (fun c2 => ?_)
        · rw [decide_eq_true (show l ||| e = 0 from c2)]
          exact ⟨Or.inl rfl, rfl, rfl⟩
        · rw [decide_eq_false (show ¬ l ||| e = 0 from c2)]
          exact ⟨Or.inr rfl, rfl, rfl⟩
theorem hm_mkc (f l e : Int32) : ((decide (1 ≤ f) && decide (f ≤ 9)) && hm_msk l e) = true ↔ hz_mkc f l e := by
  unfold hm_msk hz_mkc
  simp only [Bool.and_eq_true, decide_eq_true_iff, Bool.not_eq_true', decide_eq_false_iff_not]
theorem r_make (d : Nat) (h : hq_H) (w : hz_W) (R : hm_RM h w) (ok : hz_okW w) (f l e : Int32) : hm_Ans MX7_make (d + 5) [.inr (13, 0), hz_i f, hz_i l, hz_i e] h hz_IAE (sp_make w f l e) := by
  have n10 := ok.1.1
  have hc := R.1.1.1
  have walk : ∀ (x y : Bool) (v : Value) (hr : hq_H), ((decide (1 ≤ f) && decide (f ≤ 9)) && hm_msk l e) = x → decide (w.1.1 < 10) = y → (∀ J : Nat → hq_C, (∀ (ls : hq_L) (st : List hq_V) (h : hq_H), (hk_iconst 1 (hk_v4r 13 (d + 4) MX7_goes (hk_if_ne (hk_aload 0 (hk_v1v 13 (d + 4) MX7_saves (hk_aload 0 (hk_iload 1 (hk_iload 2 (hk_iload 3 (hk_v4r 13 (d + 4) MX7_makes (hk_iret (.inl (some (.inl v))) hr)))))))) (hk_iconst 0 (hk_iret (.inl (some (.inl v))) hr))))) ls st h → J 40 ls st h) → J 40 [some (.inr (13, 0)), some (hz_i f), some (hz_i l), some (hz_i e)] [hz_i (hz_b y), hz_i (hz_b x), .inr (13, 0)] h) → hq_Met (d + 5) MX7_make [.inr (13, 0), hz_i f, hz_i l, hz_i e] h (.inl (some (.inl v))) hr := by
    intro x y v hr hx hy k40
    refine inX7_make (d + 4) 0 f l e h _ _ (fun _ => trivial) (fun J b0 b24 b40 => b0 _ _ _ ?_)
    have k40 := k40 J b40
    have t24 : J 24 [some (.inr (13, 0)), some (hz_i f), some (hz_i l), some (hz_i e)] [hz_i (hz_b x), .inr (13, 0)] h := by
      refine b24 _ _ _ ⟨0, by decide, rfl, ?_⟩
      cases y with
      | false => exact hq_bt (hz_le (a := 10) (b := w.1.1) rfl hc (Nat.le_of_not_lt (of_decide_eq_false hy)) (by omega)) k40
      | true => exact hq_bf (hz_nle (a := 10) (b := w.1.1) rfl hc (of_decide_eq_true hy) (by decide)) k40
    refine ⟨_, _, m_in (d + 3) f 1 9 h, ?_⟩
    cases c1 : (decide (1 ≤ f) && decide (f ≤ 9)) with
    | false =>
      rw [c1, Bool.false_and] at hx
      subst hx
      exact hq_bt rfl t24
    | true =>
      rw [c1, Bool.true_and] at hx
      refine hq_bf hz_one0 ?_
      refine ⟨_, _, m_masks (d + 2) l e h, ?_⟩
      rw [hx]
      cases x with
      | false => exact hq_bt rfl t24
      | true => exact hq_bf hz_one0 t24
  by_cases c : hz_mkc f l e
  · have cx := (hm_mkc f l e).mpr c
    by_cases n : w.1.1 < 10
    · rw [sp_make_y c n]
      obtain ⟨h1, m1, R1, s1, t1⟩ := m_saves (d + 2) (hq_si h 13 0 3 0) w (hm_RM_th 0 R ok) ok
      obtain ⟨r1, r2, r3⟩ := hm_mkh_rest h1 (5 + 6 * w.1.1) f l e
      obtain ⟨q1, q2⟩ := hm_mkh_S f l e R1.1.1 n
      refine hm_yes R1 s1 t1 (hz_okW_save ok) r1 r2 r3 q1 q2 ?_
      refine walk true true _ _ cx (decide_eq_true n) (fun J b40 => b40 _ _ _ ?_)
      refine ⟨_, _, m_goes (d + 3) true true true h, hq_nt hz_one0 ?_⟩
      exact ⟨_, m1, _, _, m_makes (d + 2) f l e h1 w.1.1 R1.1.1.1 n, rfl, rfl⟩
    · rw [sp_make_f c n]
      refine hm_no (v := .int 0) R ok (x := 2) (by decide) ?_
      refine walk true false _ _ cx (decide_eq_false n) (fun J b40 => b40 _ _ _ ?_)
      exact ⟨_, _, m_goes (d + 3) true false true h, hq_nf rfl ⟨rfl, rfl⟩⟩
  · rw [sp_make_n c]
    refine hm_no (v := .int 0) R ok (x := 1) (by decide) ?_
    refine walk false (decide (w.1.1 < 10)) _ _ (ts_nt (fun z => c ((hm_mkc f l e).mp z))) rfl (fun J b40 => b40 _ _ _ ?_)
    exact ⟨_, _, m_goes (d + 3) false (decide (w.1.1 < 10)) true h, hq_nf rfl ⟨rfl, rfl⟩⟩
